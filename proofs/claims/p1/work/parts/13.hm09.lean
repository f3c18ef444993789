abbrev rm_Reader_readInstruction : Room := { frames := 10, cells := 1, slots := 6, locals := 193 }
noncomputable def jb_Reader_readInstruction_365 (fu : Nat) (b1 : Int32) (s0 : Int32) (u : xk_St) : Option ((Int32 ⊕ Nat) × xk_St) :=
  (xs_seq (fm_Code_add s0 (0 : Int32) (0 : Int64) u) fun _ u18 => xs_seq (fm_Code_closed b1 u18) fun a19 u20 => some (.inl a19, u20))
noncomputable def jb_Reader_readInstruction_43 (fu : Nat) (b1 : Int32) (b2 : Int32) (s0 : Int32) (u : xk_St) : Option ((Int32 ⊕ Nat) × xk_St) :=
  if s0 = (45 : Int32) then (some (.inr 1, u)) else if s0 = (46 : Int32) then ((xs_seq (fm_Code_add b2 (0 : Int32) (0 : Int64) u) fun _ u3 => some (.inl b1, u3))) else if s0 = (98 : Int32) then ((xs_try (fm_Reader_readBlockType fu u) fun a4 u5 => xs_seq (fm_Code_add b2 a4 (0 : Int64) u5) fun _ u6 => xs_seq (fm_Code_opened b1 u6) fun a7 u8 => some (.inl a7, u8))) else if s0 = (101 : Int32) then ((if b1 < 0 ∨ 8192 ≤ b1.toNatClampNeg then none else if (u.2.2.1 7 b1.toNatClampNeg) = (4 : Int32) then ((xs_seq (fm_Code_add b2 (0 : Int32) (0 : Int64) u) fun _ u9 => xs_seq (fm_Code_turned b1 u9) fun a10 u11 => some (.inl a10, u11))) else (some (.inr 0, u)))) else if s0 = (105 : Int32) then ((xs_try (fm_Reader_readSigned fu (32 : Int32) u) fun a12 u13 => xs_seq (fm_Code_add b2 (0 : Int32) a12 u13) fun _ u14 => some (.inl b1, u14))) else if s0 = (108 : Int32) then ((xs_try (fm_Reader_readSigned fu (64 : Int32) u) fun a15 u16 => xs_seq (fm_Code_add b2 (0 : Int32) a15 u16) fun _ u17 => some (.inl b1, u17))) else if s0 = (110 : Int32) then ((if b1 < 0 ∨ 8192 ≤ b1.toNatClampNeg then none else if (u.2.2.1 7 b1.toNatClampNeg) = (6 : Int32) then (jb_Reader_readInstruction_365 fu b1 (7 : Int32) u) else (jb_Reader_readInstruction_365 fu b1 (11 : Int32) u))) else if s0 = (114 : Int32) then ((xs_try (fm_Reader_readWays fu b2 u) fun _ u21 => some (.inl b1, u21))) else if s0 = (116 : Int32) then ((xs_try (fm_Reader_readTarget fu u) fun a22 u23 => xs_seq (fm_Code_add b2 a22 (0 : Int64) u23) fun _ u24 => some (.inl b1, u24))) else if s0 = (117 : Int32) then ((xs_try (fm_Reader_readNumber fu u) fun a25 u26 => xs_seq (fm_Code_add b2 a25 (0 : Int64) u26) fun _ u27 => some (.inl b1, u27))) else if s0 = (119 : Int32) then ((xs_try (fm_Reader_readNumber fu u) fun a28 u29 => xs_try (fm_Reader_readUnsigned fu u29) fun a30 u31 => xs_seq (fm_Code_add b2 a28 a30 u31) fun _ u32 => some (.inl b1, u32))) else if s0 = (122 : Int32) then ((xs_try (fm_Reader_expect (0 : Int32) u) fun _ u33 => xs_seq (fm_Code_add b2 (0 : Int32) (0 : Int64) u33) fun _ u34 => some (.inl b1, u34))) else (some (.inr 0, u))
noncomputable def jb_Reader_readInstruction_26 (fu : Nat) (b1 : Int32) (b2 : Int32) (u : xk_St) : Option ((Int32 ⊕ Nat) × xk_St) :=
  if b2 ≤ (286 : Int32) then ((if b2 < 0 ∨ 287 ≤ b2.toNatClampNeg then none else jb_Reader_readInstruction_43 fu b1 b2 (xt_S b2.toNatClampNeg) u)) else (jb_Reader_readInstruction_43 fu b1 b2 (33 : Int32) u)
noncomputable def fm_Reader_readInstruction (fu : Nat) (x0 : Int32) (u : xk_St) : Option ((Int32 ⊕ Nat) × xk_St) :=
  (xs_try (fm_Reader_readByte u) fun a1 u2 => if a1 = (251 : Int32) then ((xs_try (fm_Reader_readNumber fu u2) fun a35 u36 => xs_let ((256 : Int32) + (if (31 : Int32) < a35 then (31 : Int32) else a35)) fun a37 => jb_Reader_readInstruction_26 fu x0 a37 u36)) else (jb_Reader_readInstruction_26 fu x0 a1 u2))
set_option maxHeartbeats 4000000 in
set_option maxRecDepth 100000 in
theorem wj_Reader_readInstruction_365 {p : Program} {l : Launch} {e : Env} {s : State} {m : MethodId} {args : Array Value} {below : List Frame} {meth : Method} {c : Code} {D : va_G} {ad : Nat → Nat} {ca : Nat → ClassId} {ads : List Nat} {fu : Nat} (htr : l.stackTraces = false) (C : xk_C D kx_cl (kx_ty ca) (kw_h ad ca) ads "ModuleHouse$Reader" prog_9_method_30_code 4 (some .int) p e s m args meth c) (hne : c.exceptionTable.isEmpty = true) {u' : xk_St} {r : (Int32 ⊕ Nat)} {b1 : Int32} {s0 : Int32} {u : xk_St} {H : Heap} {locs : List Loc} {ls : Array Slot} (h : jb_Reader_readInstruction_365 fu  b1 s0 u = some (r, u')) (hP : va_P D kx_cl (kw_h ad ca u) H) (hS : va_S (xk_A ads s.heap.size) s.heap H locs) (hl : lv_has ls 4 [(0, .ref (ad 54)), (1, .int b1)]) : W p l e rm_Reader_readInstruction s m args below meth c H locs 0 0 (xk_MQ below (xk_Qc D kx_cl (kw_h ad ca) ads (xo_i r) u') args s (xk_A ads s.heap.size)) (F0 m 365 ls [.int s0, .ref (ad 12)]) := by
  have hx := C.1.1
  have hb := C.1.2.1
  have hok := C.2.2.1
  obtain ⟨t0, hZ0, hT0⟩ := C.2.2.2.1.2.2.2.2.2.1
  obtain ⟨t1, hZ1, hT1⟩ := C.2.2.2.1.2.2.2.2.2.2.1
  obtain ⟨t2, hZ2, hT2⟩ := C.2.2.2.1.2.2.2.2.2.2.2
  unfold jb_Reader_readInstruction_365 at h
  refine lv_iconst (v := 0) hx hb dd_Reader_readInstruction_365 (by decide) ?_
  refine lv_lconst (v := 0) hx hb dd_Reader_readInstruction_366 (by decide) ?_
  obtain ⟨rx, u18, hq, h⟩ := xp_seq h
  refine xk_goesV (xr_V (As := [.int s0, .int (0 : Int32), .long (0 : Int64)]) (rest := []) C hP hS (ct_Code_add htr hok hq) kq_Reader_235 12 2 rfl rfl ⟨rfl, rfl, Nat.le_of_ble_eq_true rfl, Nat.le_of_ble_eq_true rfl⟩ ⟨Nat.le_of_ble_eq_true rfl, Nat.le_of_ble_eq_true rfl⟩ hl.1 rfl rfl (Nat.le_of_ble_eq_true rfl) dd_Reader_readInstruction_367) hS (fun H locs hP hS => ?_)
  clear hq
  refine lv_aload_n hx hb dd_Reader_readInstruction_370 rfl (lv_at hl 0 rfl) ?_
  refine gf_h_Reader_54_code C hP dd_Reader_readInstruction_371 ?_
  refine lv_iload_n hx hb dd_Reader_readInstruction_374 rfl (lv_at hl 1 rfl) ?_
  obtain ⟨a19, u20, hq, h⟩ := xp_seq h
  refine xk_goesI (xr_V (As := [.int b1]) (rest := []) C hP hS (ct_Code_closed htr hok hq) kq_Reader_265 12 2 rfl rfl ⟨rfl, rfl, Nat.le_of_ble_eq_true rfl, Nat.le_of_ble_eq_true rfl⟩ ⟨Nat.le_of_ble_eq_true rfl, Nat.le_of_ble_eq_true rfl⟩ hl.1 rfl rfl (Nat.le_of_ble_eq_true rfl) dd_Reader_readInstruction_375) hS (fun H locs hP hS => ?_)
  clear hq
  obtain ⟨rfl, rfl⟩ := xp_r h
  exact xr_iret C hP hS dd_Reader_readInstruction_378
set_option maxHeartbeats 4000000 in
set_option maxRecDepth 100000 in
theorem wj_Reader_readInstruction_43 {p : Program} {l : Launch} {e : Env} {s : State} {m : MethodId} {args : Array Value} {below : List Frame} {meth : Method} {c : Code} {D : va_G} {ad : Nat → Nat} {ca : Nat → ClassId} {ads : List Nat} {fu : Nat} (htr : l.stackTraces = false) (C : xk_C D kx_cl (kx_ty ca) (kw_h ad ca) ads "ModuleHouse$Reader" prog_9_method_30_code 4 (some .int) p e s m args meth c) (hne : c.exceptionTable.isEmpty = true) {u' : xk_St} {r : (Int32 ⊕ Nat)} {b1 : Int32} {b2 : Int32} {s0 : Int32} {u : xk_St} {H : Heap} {locs : List Loc} {ls : Array Slot} (h : jb_Reader_readInstruction_43 fu  b1 b2 s0 u = some (r, u')) (hP : va_P D kx_cl (kw_h ad ca u) H) (hS : va_S (xk_A ads s.heap.size) s.heap H locs) (hl : lv_has ls 4 [(0, .ref (ad 54)), (1, .int b1), (2, .int b2)]) : W p l e rm_Reader_readInstruction s m args below meth c H locs 0 0 (xk_MQ below (xk_Qc D kx_cl (kw_h ad ca) ads (xo_i r) u') args s (xk_A ads s.heap.size)) (F0 m 43 ls [.int s0]) := by
  have hx := C.1.1
  have hb := C.1.2.1
  have hok := C.2.2.1
  obtain ⟨t0, hZ0, hT0⟩ := C.2.2.2.1.2.2.2.2.2.1
  obtain ⟨t1, hZ1, hT1⟩ := C.2.2.2.1.2.2.2.2.2.2.1
  obtain ⟨t2, hZ2, hT2⟩ := C.2.2.2.1.2.2.2.2.2.2.2
  unfold jb_Reader_readInstruction_43 at h
  refine lv_istore_n (lv' := [(3, .int s0), (0, .ref (ad 54)), (1, .int b1), (2, .int b2)]) hx hb dd_Reader_readInstruction_43 rfl hl (by decide) rfl (fun ls hl => ?_)
  refine lv_iload_n hx hb dd_Reader_readInstruction_44 rfl (lv_at hl 0 rfl) ?_
  by_cases hc0 : s0 = (45 : Int32)
  · have h := xp_t hc0 h
    refine lv_lookup (off := 334) (tgt := 379) hx hb dd_Reader_readInstruction_45 (by decide) (by rw [hc0]; rfl) (by decide) ?_
    obtain ⟨rfl, rfl⟩ := xp_r h
    exact xr_throw C hP hS hne kz_Reader_1 hl.1 ⟨Nat.le_of_ble_eq_true rfl, Nat.le_of_ble_eq_true rfl, Nat.le_of_ble_eq_true rfl, Nat.le_of_ble_eq_true rfl⟩ dd_Reader_readInstruction_379 dd_Reader_readInstruction_382 dd_Reader_readInstruction_383 dd_Reader_readInstruction_386
  have h := xp_f hc0 h
  by_cases hc1 : s0 = (46 : Int32)
  · have h := xp_t hc1 h
    refine lv_lookup (off := 107) (tgt := 152) hx hb dd_Reader_readInstruction_45 (by decide) (by rw [hc1]; rfl) (by decide) ?_
    refine lv_aload_n hx hb dd_Reader_readInstruction_152 rfl (lv_at hl 1 rfl) ?_
    refine gf_h_Reader_54_code C hP dd_Reader_readInstruction_153 ?_
    refine lv_iload_n hx hb dd_Reader_readInstruction_156 rfl (lv_at hl 3 rfl) ?_
    refine lv_iconst (v := 0) hx hb dd_Reader_readInstruction_157 (by decide) ?_
    refine lv_lconst (v := 0) hx hb dd_Reader_readInstruction_158 (by decide) ?_
    obtain ⟨rx, u3, hq, h⟩ := xp_seq h
    refine xk_goesV (xr_V (As := [.int b2, .int (0 : Int32), .long (0 : Int64)]) (rest := []) C hP hS (ct_Code_add htr hok hq) kq_Reader_235 12 2 rfl rfl ⟨rfl, rfl, Nat.le_of_ble_eq_true rfl, Nat.le_of_ble_eq_true rfl⟩ ⟨Nat.le_of_ble_eq_true rfl, Nat.le_of_ble_eq_true rfl⟩ hl.1 rfl rfl (Nat.le_of_ble_eq_true rfl) dd_Reader_readInstruction_159) hS (fun H locs hP hS => ?_)
    clear hq
    refine lv_goto (tgt := 395) hx hb dd_Reader_readInstruction_162 (by decide) ?_
    refine lv_iload_n hx hb dd_Reader_readInstruction_395 rfl (lv_at hl 2 rfl) ?_
    obtain ⟨rfl, rfl⟩ := xp_r h
    exact xr_iret C hP hS dd_Reader_readInstruction_396
  have h := xp_f hc1 h
  by_cases hc2 : s0 = (98 : Int32)
  · have h := xp_t hc2 h
    refine lv_lookup (off := 233) (tgt := 278) hx hb dd_Reader_readInstruction_45 (by decide) (by rw [hc2]; rfl) (by decide) ?_
    refine lv_aload_n hx hb dd_Reader_readInstruction_278 rfl (lv_at hl 1 rfl) ?_
    refine gf_h_Reader_54_code C hP dd_Reader_readInstruction_279 ?_
    refine lv_iload_n hx hb dd_Reader_readInstruction_282 rfl (lv_at hl 3 rfl) ?_
    refine lv_aload_n hx hb dd_Reader_readInstruction_283 rfl (lv_at hl 1 rfl) ?_
    rcases xp_try h with ⟨a4, u5, hq, h⟩ | ⟨kx, ux, hq, h⟩
    rotate_left
    · obtain ⟨rfl, rfl⟩ := xp_q h
      exact xk_up (xr_V (As := []) (rest := [.int b2, .ref (ad 12)]) C hP hS (ct_Reader_readBlockType htr hok hq) kq_Reader_255 54 7 rfl rfl ⟨rfl, rfl, Nat.le_of_ble_eq_true rfl, Nat.le_of_ble_eq_true rfl⟩ ⟨Nat.le_of_ble_eq_true rfl, Nat.le_of_ble_eq_true rfl⟩ hl.1 rfl rfl (Nat.le_of_ble_eq_true rfl) dd_Reader_readInstruction_284) hS hne C.2.2.2.2.2.2.1
    refine xk_goesI (xr_V (As := []) (rest := [.int b2, .ref (ad 12)]) C hP hS (ct_Reader_readBlockType htr hok hq) kq_Reader_255 54 7 rfl rfl ⟨rfl, rfl, Nat.le_of_ble_eq_true rfl, Nat.le_of_ble_eq_true rfl⟩ ⟨Nat.le_of_ble_eq_true rfl, Nat.le_of_ble_eq_true rfl⟩ hl.1 rfl rfl (Nat.le_of_ble_eq_true rfl) dd_Reader_readInstruction_284) hS (fun H locs hP hS => ?_)
    clear hq
    refine lv_lconst (v := 0) hx hb dd_Reader_readInstruction_287 (by decide) ?_
    obtain ⟨rx, u6, hq, h⟩ := xp_seq h
    refine xk_goesV (xr_V (As := [.int b2, .int a4, .long (0 : Int64)]) (rest := []) C hP hS (ct_Code_add htr hok hq) kq_Reader_235 12 2 rfl rfl ⟨rfl, rfl, Nat.le_of_ble_eq_true rfl, Nat.le_of_ble_eq_true rfl⟩ ⟨Nat.le_of_ble_eq_true rfl, Nat.le_of_ble_eq_true rfl⟩ hl.1 rfl rfl (Nat.le_of_ble_eq_true rfl) dd_Reader_readInstruction_288) hS (fun H locs hP hS => ?_)
    clear hq
    refine lv_aload_n hx hb dd_Reader_readInstruction_291 rfl (lv_at hl 1 rfl) ?_
    refine gf_h_Reader_54_code C hP dd_Reader_readInstruction_292 ?_
    refine lv_iload_n hx hb dd_Reader_readInstruction_295 rfl (lv_at hl 2 rfl) ?_
    obtain ⟨a7, u8, hq, h⟩ := xp_seq h
    refine xk_goesI (xr_V (As := [.int b1]) (rest := []) C hP hS (ct_Code_opened htr hok hq) kq_Reader_239 12 2 rfl rfl ⟨rfl, rfl, Nat.le_of_ble_eq_true rfl, Nat.le_of_ble_eq_true rfl⟩ ⟨Nat.le_of_ble_eq_true rfl, Nat.le_of_ble_eq_true rfl⟩ hl.1 rfl rfl (Nat.le_of_ble_eq_true rfl) dd_Reader_readInstruction_296) hS (fun H locs hP hS => ?_)
    clear hq
    obtain ⟨rfl, rfl⟩ := xp_r h
    exact xr_iret C hP hS dd_Reader_readInstruction_299
  have h := xp_f hc2 h
  by_cases hc3 : s0 = (101 : Int32)
  · have h := xp_t hc3 h
    refine lv_lookup (off := 255) (tgt := 300) hx hb dd_Reader_readInstruction_45 (by decide) (by rw [hc3]; rfl) (by decide) ?_
    refine lv_aload_n hx hb dd_Reader_readInstruction_300 rfl (lv_at hl 1 rfl) ?_
    refine gf_h_Reader_54_code C hP dd_Reader_readInstruction_301 ?_
    refine gf_h_Reader_12_op C hP dd_Reader_readInstruction_304 ?_
    refine lv_iload_n hx hb dd_Reader_readInstruction_307 rfl (lv_at hl 2 rfl) ?_
    obtain ⟨hi, h⟩ := xp_g h
    refine al_h_13 C hP hi dd_Reader_readInstruction_308 ?_
    refine lv_iconst (v := 4) hx hb dd_Reader_readInstruction_309 (by decide) ?_
    refine lv_icmp_eq (tgt := 321) hx hb dd_Reader_readInstruction_310 (by decide) (fun hc => ?_) (fun hc => ?_)
    · have h := xp_t hc h
      refine lv_aload_n hx hb dd_Reader_readInstruction_321 rfl (lv_at hl 1 rfl) ?_
      refine gf_h_Reader_54_code C hP dd_Reader_readInstruction_322 ?_
      refine lv_iload_n hx hb dd_Reader_readInstruction_325 rfl (lv_at hl 3 rfl) ?_
      refine lv_iconst (v := 0) hx hb dd_Reader_readInstruction_326 (by decide) ?_
      refine lv_lconst (v := 0) hx hb dd_Reader_readInstruction_327 (by decide) ?_
      obtain ⟨rx, u9, hq, h⟩ := xp_seq h
      refine xk_goesV (xr_V (As := [.int b2, .int (0 : Int32), .long (0 : Int64)]) (rest := []) C hP hS (ct_Code_add htr hok hq) kq_Reader_235 12 2 rfl rfl ⟨rfl, rfl, Nat.le_of_ble_eq_true rfl, Nat.le_of_ble_eq_true rfl⟩ ⟨Nat.le_of_ble_eq_true rfl, Nat.le_of_ble_eq_true rfl⟩ hl.1 rfl rfl (Nat.le_of_ble_eq_true rfl) dd_Reader_readInstruction_328) hS (fun H locs hP hS => ?_)
      clear hq
      refine lv_aload_n hx hb dd_Reader_readInstruction_331 rfl (lv_at hl 1 rfl) ?_
      refine gf_h_Reader_54_code C hP dd_Reader_readInstruction_332 ?_
      refine lv_iload_n hx hb dd_Reader_readInstruction_335 rfl (lv_at hl 2 rfl) ?_
      obtain ⟨a10, u11, hq, h⟩ := xp_seq h
      refine xk_goesI (xr_V (As := [.int b1]) (rest := []) C hP hS (ct_Code_turned htr hok hq) kq_Reader_262 12 2 rfl rfl ⟨rfl, rfl, Nat.le_of_ble_eq_true rfl, Nat.le_of_ble_eq_true rfl⟩ ⟨Nat.le_of_ble_eq_true rfl, Nat.le_of_ble_eq_true rfl⟩ hl.1 rfl rfl (Nat.le_of_ble_eq_true rfl) dd_Reader_readInstruction_336) hS (fun H locs hP hS => ?_)
      clear hq
      obtain ⟨rfl, rfl⟩ := xp_r h
      exact xr_iret C hP hS dd_Reader_readInstruction_339
    · have h := xp_f hc h
      obtain ⟨rfl, rfl⟩ := xp_r h
      exact xr_throw C hP hS hne kz_Reader_0 hl.1 ⟨Nat.le_of_ble_eq_true rfl, Nat.le_of_ble_eq_true rfl, Nat.le_of_ble_eq_true rfl, Nat.le_of_ble_eq_true rfl⟩ dd_Reader_readInstruction_313 dd_Reader_readInstruction_316 dd_Reader_readInstruction_317 dd_Reader_readInstruction_320
  have h := xp_f hc3 h
  by_cases hc4 : s0 = (105 : Int32)
  · have h := xp_t hc4 h
    refine lv_lookup (off := 155) (tgt := 200) hx hb dd_Reader_readInstruction_45 (by decide) (by rw [hc4]; rfl) (by decide) ?_
    refine lv_aload_n hx hb dd_Reader_readInstruction_200 rfl (lv_at hl 1 rfl) ?_
    refine gf_h_Reader_54_code C hP dd_Reader_readInstruction_201 ?_
    refine lv_iload_n hx hb dd_Reader_readInstruction_204 rfl (lv_at hl 3 rfl) ?_
    refine lv_iconst (v := 0) hx hb dd_Reader_readInstruction_205 (by decide) ?_
    refine lv_aload_n hx hb dd_Reader_readInstruction_206 rfl (lv_at hl 1 rfl) ?_
    refine lv_bipush (v := 32) hx hb dd_Reader_readInstruction_207 (by decide) ?_
    rcases xp_try h with ⟨a12, u13, hq, h⟩ | ⟨kx, ux, hq, h⟩
    rotate_left
    · obtain ⟨rfl, rfl⟩ := xp_q h
      exact xk_up (xr_V (As := [.int (32 : Int32)]) (rest := [.int (0 : Int32), .int b2, .ref (ad 12)]) C hP hS (ct_Reader_readSigned htr hok hq) kq_Reader_120 54 7 rfl rfl ⟨rfl, rfl, Nat.le_of_ble_eq_true rfl, Nat.le_of_ble_eq_true rfl⟩ ⟨Nat.le_of_ble_eq_true rfl, Nat.le_of_ble_eq_true rfl⟩ hl.1 rfl rfl (Nat.le_of_ble_eq_true rfl) dd_Reader_readInstruction_209) hS hne C.2.2.2.2.2.2.1
    refine xk_goesL (xr_V (As := [.int (32 : Int32)]) (rest := [.int (0 : Int32), .int b2, .ref (ad 12)]) C hP hS (ct_Reader_readSigned htr hok hq) kq_Reader_120 54 7 rfl rfl ⟨rfl, rfl, Nat.le_of_ble_eq_true rfl, Nat.le_of_ble_eq_true rfl⟩ ⟨Nat.le_of_ble_eq_true rfl, Nat.le_of_ble_eq_true rfl⟩ hl.1 rfl rfl (Nat.le_of_ble_eq_true rfl) dd_Reader_readInstruction_209) hS (fun H locs hP hS => ?_)
    clear hq
    obtain ⟨rx, u14, hq, h⟩ := xp_seq h
    refine xk_goesV (xr_V (As := [.int b2, .int (0 : Int32), .long a12]) (rest := []) C hP hS (ct_Code_add htr hok hq) kq_Reader_235 12 2 rfl rfl ⟨rfl, rfl, Nat.le_of_ble_eq_true rfl, Nat.le_of_ble_eq_true rfl⟩ ⟨Nat.le_of_ble_eq_true rfl, Nat.le_of_ble_eq_true rfl⟩ hl.1 rfl rfl (Nat.le_of_ble_eq_true rfl) dd_Reader_readInstruction_212) hS (fun H locs hP hS => ?_)
    clear hq
    refine lv_goto (tgt := 395) hx hb dd_Reader_readInstruction_215 (by decide) ?_
    refine lv_iload_n hx hb dd_Reader_readInstruction_395 rfl (lv_at hl 2 rfl) ?_
    obtain ⟨rfl, rfl⟩ := xp_r h
    exact xr_iret C hP hS dd_Reader_readInstruction_396
  have h := xp_f hc4 h
  by_cases hc5 : s0 = (108 : Int32)
  · have h := xp_t hc5 h
    refine lv_lookup (off := 173) (tgt := 218) hx hb dd_Reader_readInstruction_45 (by decide) (by rw [hc5]; rfl) (by decide) ?_
    refine lv_aload_n hx hb dd_Reader_readInstruction_218 rfl (lv_at hl 1 rfl) ?_
    refine gf_h_Reader_54_code C hP dd_Reader_readInstruction_219 ?_
    refine lv_iload_n hx hb dd_Reader_readInstruction_222 rfl (lv_at hl 3 rfl) ?_
    refine lv_iconst (v := 0) hx hb dd_Reader_readInstruction_223 (by decide) ?_
    refine lv_aload_n hx hb dd_Reader_readInstruction_224 rfl (lv_at hl 1 rfl) ?_
    refine lv_bipush (v := 64) hx hb dd_Reader_readInstruction_225 (by decide) ?_
    rcases xp_try h with ⟨a15, u16, hq, h⟩ | ⟨kx, ux, hq, h⟩
    rotate_left
    · obtain ⟨rfl, rfl⟩ := xp_q h
      exact xk_up (xr_V (As := [.int (64 : Int32)]) (rest := [.int (0 : Int32), .int b2, .ref (ad 12)]) C hP hS (ct_Reader_readSigned htr hok hq) kq_Reader_120 54 7 rfl rfl ⟨rfl, rfl, Nat.le_of_ble_eq_true rfl, Nat.le_of_ble_eq_true rfl⟩ ⟨Nat.le_of_ble_eq_true rfl, Nat.le_of_ble_eq_true rfl⟩ hl.1 rfl rfl (Nat.le_of_ble_eq_true rfl) dd_Reader_readInstruction_227) hS hne C.2.2.2.2.2.2.1
    refine xk_goesL (xr_V (As := [.int (64 : Int32)]) (rest := [.int (0 : Int32), .int b2, .ref (ad 12)]) C hP hS (ct_Reader_readSigned htr hok hq) kq_Reader_120 54 7 rfl rfl ⟨rfl, rfl, Nat.le_of_ble_eq_true rfl, Nat.le_of_ble_eq_true rfl⟩ ⟨Nat.le_of_ble_eq_true rfl, Nat.le_of_ble_eq_true rfl⟩ hl.1 rfl rfl (Nat.le_of_ble_eq_true rfl) dd_Reader_readInstruction_227) hS (fun H locs hP hS => ?_)
    clear hq
    obtain ⟨rx, u17, hq, h⟩ := xp_seq h
    refine xk_goesV (xr_V (As := [.int b2, .int (0 : Int32), .long a15]) (rest := []) C hP hS (ct_Code_add htr hok hq) kq_Reader_235 12 2 rfl rfl ⟨rfl, rfl, Nat.le_of_ble_eq_true rfl, Nat.le_of_ble_eq_true rfl⟩ ⟨Nat.le_of_ble_eq_true rfl, Nat.le_of_ble_eq_true rfl⟩ hl.1 rfl rfl (Nat.le_of_ble_eq_true rfl) dd_Reader_readInstruction_230) hS (fun H locs hP hS => ?_)
    clear hq
    refine lv_goto (tgt := 395) hx hb dd_Reader_readInstruction_233 (by decide) ?_
    refine lv_iload_n hx hb dd_Reader_readInstruction_395 rfl (lv_at hl 2 rfl) ?_
    obtain ⟨rfl, rfl⟩ := xp_r h
    exact xr_iret C hP hS dd_Reader_readInstruction_396
  have h := xp_f hc5 h
  by_cases hc6 : s0 = (110 : Int32)
  · have h := xp_t hc6 h
    refine lv_lookup (off := 295) (tgt := 340) hx hb dd_Reader_readInstruction_45 (by decide) (by rw [hc6]; rfl) (by decide) ?_
    refine lv_aload_n hx hb dd_Reader_readInstruction_340 rfl (lv_at hl 1 rfl) ?_
    refine gf_h_Reader_54_code C hP dd_Reader_readInstruction_341 ?_
    refine lv_aload_n hx hb dd_Reader_readInstruction_344 rfl (lv_at hl 1 rfl) ?_
    refine gf_h_Reader_54_code C hP dd_Reader_readInstruction_345 ?_
    refine gf_h_Reader_12_op C hP dd_Reader_readInstruction_348 ?_
    refine lv_iload_n hx hb dd_Reader_readInstruction_351 rfl (lv_at hl 2 rfl) ?_
    obtain ⟨hi, h⟩ := xp_g h
    refine al_h_13 C hP hi dd_Reader_readInstruction_352 ?_
    refine lv_bipush (v := 6) hx hb dd_Reader_readInstruction_353 (by decide) ?_
    refine lv_icmp_ne (tgt := 363) hx hb dd_Reader_readInstruction_355 (by decide) (fun hc => ?_) (fun hc => ?_)
    · have h := xp_f hc h
      refine lv_bipush (v := 11) hx hb dd_Reader_readInstruction_363 (by decide) ?_
      exact wj_Reader_readInstruction_365 htr C hne h hP hS (lv_sub hl [1, 2] rfl)
    · have h := xp_t hc h
      refine lv_bipush (v := 7) hx hb dd_Reader_readInstruction_358 (by decide) ?_
      refine lv_goto (tgt := 365) hx hb dd_Reader_readInstruction_360 (by decide) ?_
      exact wj_Reader_readInstruction_365 htr C hne h hP hS (lv_sub hl [1, 2] rfl)
  have h := xp_f hc6 h
  by_cases hc7 : s0 = (114 : Int32)
  · have h := xp_t hc7 h
    refine lv_lookup (off := 207) (tgt := 252) hx hb dd_Reader_readInstruction_45 (by decide) (by rw [hc7]; rfl) (by decide) ?_
    refine lv_aload_n hx hb dd_Reader_readInstruction_252 rfl (lv_at hl 1 rfl) ?_
    refine lv_iload_n hx hb dd_Reader_readInstruction_253 rfl (lv_at hl 3 rfl) ?_
    rcases xp_try h with ⟨rx, u21, hq, h⟩ | ⟨kx, ux, hq, h⟩
    rotate_left
    · obtain ⟨rfl, rfl⟩ := xp_q h
      exact xk_up (xr_V (As := [.int b2]) (rest := []) C hP hS (ct_Reader_readWays htr hok hq) kq_Reader_252 54 7 rfl rfl ⟨rfl, rfl, Nat.le_of_ble_eq_true rfl, Nat.le_of_ble_eq_true rfl⟩ ⟨Nat.le_of_ble_eq_true rfl, Nat.le_of_ble_eq_true rfl⟩ hl.1 rfl rfl (Nat.le_of_ble_eq_true rfl) dd_Reader_readInstruction_254) hS hne C.2.2.2.2.2.2.1
    refine xk_goesV (xr_V (As := [.int b2]) (rest := []) C hP hS (ct_Reader_readWays htr hok hq) kq_Reader_252 54 7 rfl rfl ⟨rfl, rfl, Nat.le_of_ble_eq_true rfl, Nat.le_of_ble_eq_true rfl⟩ ⟨Nat.le_of_ble_eq_true rfl, Nat.le_of_ble_eq_true rfl⟩ hl.1 rfl rfl (Nat.le_of_ble_eq_true rfl) dd_Reader_readInstruction_254) hS (fun H locs hP hS => ?_)
    clear hq
    refine lv_goto (tgt := 395) hx hb dd_Reader_readInstruction_257 (by decide) ?_
    refine lv_iload_n hx hb dd_Reader_readInstruction_395 rfl (lv_at hl 2 rfl) ?_
    obtain ⟨rfl, rfl⟩ := xp_r h
    exact xr_iret C hP hS dd_Reader_readInstruction_396
  have h := xp_f hc7 h
  by_cases hc8 : s0 = (116 : Int32)
  · have h := xp_t hc8 h
    refine lv_lookup (off := 191) (tgt := 236) hx hb dd_Reader_readInstruction_45 (by decide) (by rw [hc8]; rfl) (by decide) ?_
    refine lv_aload_n hx hb dd_Reader_readInstruction_236 rfl (lv_at hl 1 rfl) ?_
    refine gf_h_Reader_54_code C hP dd_Reader_readInstruction_237 ?_
    refine lv_iload_n hx hb dd_Reader_readInstruction_240 rfl (lv_at hl 3 rfl) ?_
    refine lv_aload_n hx hb dd_Reader_readInstruction_241 rfl (lv_at hl 1 rfl) ?_
    rcases xp_try h with ⟨a22, u23, hq, h⟩ | ⟨kx, ux, hq, h⟩
    rotate_left
    · obtain ⟨rfl, rfl⟩ := xp_q h
      exact xk_up (xr_V (As := []) (rest := [.int b2, .ref (ad 12)]) C hP hS (ct_Reader_readTarget htr hok hq) kq_Reader_130 54 7 rfl rfl ⟨rfl, rfl, Nat.le_of_ble_eq_true rfl, Nat.le_of_ble_eq_true rfl⟩ ⟨Nat.le_of_ble_eq_true rfl, Nat.le_of_ble_eq_true rfl⟩ hl.1 rfl rfl (Nat.le_of_ble_eq_true rfl) dd_Reader_readInstruction_242) hS hne C.2.2.2.2.2.2.1
    refine xk_goesI (xr_V (As := []) (rest := [.int b2, .ref (ad 12)]) C hP hS (ct_Reader_readTarget htr hok hq) kq_Reader_130 54 7 rfl rfl ⟨rfl, rfl, Nat.le_of_ble_eq_true rfl, Nat.le_of_ble_eq_true rfl⟩ ⟨Nat.le_of_ble_eq_true rfl, Nat.le_of_ble_eq_true rfl⟩ hl.1 rfl rfl (Nat.le_of_ble_eq_true rfl) dd_Reader_readInstruction_242) hS (fun H locs hP hS => ?_)
    clear hq
    refine lv_lconst (v := 0) hx hb dd_Reader_readInstruction_245 (by decide) ?_
    obtain ⟨rx, u24, hq, h⟩ := xp_seq h
    refine xk_goesV (xr_V (As := [.int b2, .int a22, .long (0 : Int64)]) (rest := []) C hP hS (ct_Code_add htr hok hq) kq_Reader_235 12 2 rfl rfl ⟨rfl, rfl, Nat.le_of_ble_eq_true rfl, Nat.le_of_ble_eq_true rfl⟩ ⟨Nat.le_of_ble_eq_true rfl, Nat.le_of_ble_eq_true rfl⟩ hl.1 rfl rfl (Nat.le_of_ble_eq_true rfl) dd_Reader_readInstruction_246) hS (fun H locs hP hS => ?_)
    clear hq
    refine lv_goto (tgt := 395) hx hb dd_Reader_readInstruction_249 (by decide) ?_
    refine lv_iload_n hx hb dd_Reader_readInstruction_395 rfl (lv_at hl 2 rfl) ?_
    obtain ⟨rfl, rfl⟩ := xp_r h
    exact xr_iret C hP hS dd_Reader_readInstruction_396
  have h := xp_f hc8 h
  by_cases hc9 : s0 = (117 : Int32)
  · have h := xp_t hc9 h
    refine lv_lookup (off := 120) (tgt := 165) hx hb dd_Reader_readInstruction_45 (by decide) (by rw [hc9]; rfl) (by decide) ?_
    refine lv_aload_n hx hb dd_Reader_readInstruction_165 rfl (lv_at hl 1 rfl) ?_
    refine gf_h_Reader_54_code C hP dd_Reader_readInstruction_166 ?_
    refine lv_iload_n hx hb dd_Reader_readInstruction_169 rfl (lv_at hl 3 rfl) ?_
    refine lv_aload_n hx hb dd_Reader_readInstruction_170 rfl (lv_at hl 1 rfl) ?_
    rcases xp_try h with ⟨a25, u26, hq, h⟩ | ⟨kx, ux, hq, h⟩
    rotate_left
    · obtain ⟨rfl, rfl⟩ := xp_q h
      exact xk_up (xr_V (As := []) (rest := [.int b2, .ref (ad 12)]) C hP hS (ct_Reader_readNumber htr hok hq) kq_Reader_78 54 7 rfl rfl ⟨rfl, rfl, Nat.le_of_ble_eq_true rfl, Nat.le_of_ble_eq_true rfl⟩ ⟨Nat.le_of_ble_eq_true rfl, Nat.le_of_ble_eq_true rfl⟩ hl.1 rfl rfl (Nat.le_of_ble_eq_true rfl) dd_Reader_readInstruction_171) hS hne C.2.2.2.2.2.2.1
    refine xk_goesI (xr_V (As := []) (rest := [.int b2, .ref (ad 12)]) C hP hS (ct_Reader_readNumber htr hok hq) kq_Reader_78 54 7 rfl rfl ⟨rfl, rfl, Nat.le_of_ble_eq_true rfl, Nat.le_of_ble_eq_true rfl⟩ ⟨Nat.le_of_ble_eq_true rfl, Nat.le_of_ble_eq_true rfl⟩ hl.1 rfl rfl (Nat.le_of_ble_eq_true rfl) dd_Reader_readInstruction_171) hS (fun H locs hP hS => ?_)
    clear hq
    refine lv_lconst (v := 0) hx hb dd_Reader_readInstruction_174 (by decide) ?_
    obtain ⟨rx, u27, hq, h⟩ := xp_seq h
    refine xk_goesV (xr_V (As := [.int b2, .int a25, .long (0 : Int64)]) (rest := []) C hP hS (ct_Code_add htr hok hq) kq_Reader_235 12 2 rfl rfl ⟨rfl, rfl, Nat.le_of_ble_eq_true rfl, Nat.le_of_ble_eq_true rfl⟩ ⟨Nat.le_of_ble_eq_true rfl, Nat.le_of_ble_eq_true rfl⟩ hl.1 rfl rfl (Nat.le_of_ble_eq_true rfl) dd_Reader_readInstruction_175) hS (fun H locs hP hS => ?_)
    clear hq
    refine lv_goto (tgt := 395) hx hb dd_Reader_readInstruction_178 (by decide) ?_
    refine lv_iload_n hx hb dd_Reader_readInstruction_395 rfl (lv_at hl 2 rfl) ?_
    obtain ⟨rfl, rfl⟩ := xp_r h
    exact xr_iret C hP hS dd_Reader_readInstruction_396
  have h := xp_f hc9 h
  by_cases hc10 : s0 = (119 : Int32)
  · have h := xp_t hc10 h
    refine lv_lookup (off := 136) (tgt := 181) hx hb dd_Reader_readInstruction_45 (by decide) (by rw [hc10]; rfl) (by decide) ?_
    refine lv_aload_n hx hb dd_Reader_readInstruction_181 rfl (lv_at hl 1 rfl) ?_
    refine gf_h_Reader_54_code C hP dd_Reader_readInstruction_182 ?_
    refine lv_iload_n hx hb dd_Reader_readInstruction_185 rfl (lv_at hl 3 rfl) ?_
    refine lv_aload_n hx hb dd_Reader_readInstruction_186 rfl (lv_at hl 1 rfl) ?_
    rcases xp_try h with ⟨a28, u29, hq, h⟩ | ⟨kx, ux, hq, h⟩
    rotate_left
    · obtain ⟨rfl, rfl⟩ := xp_q h
      exact xk_up (xr_V (As := []) (rest := [.int b2, .ref (ad 12)]) C hP hS (ct_Reader_readNumber htr hok hq) kq_Reader_78 54 7 rfl rfl ⟨rfl, rfl, Nat.le_of_ble_eq_true rfl, Nat.le_of_ble_eq_true rfl⟩ ⟨Nat.le_of_ble_eq_true rfl, Nat.le_of_ble_eq_true rfl⟩ hl.1 rfl rfl (Nat.le_of_ble_eq_true rfl) dd_Reader_readInstruction_187) hS hne C.2.2.2.2.2.2.1
    refine xk_goesI (xr_V (As := []) (rest := [.int b2, .ref (ad 12)]) C hP hS (ct_Reader_readNumber htr hok hq) kq_Reader_78 54 7 rfl rfl ⟨rfl, rfl, Nat.le_of_ble_eq_true rfl, Nat.le_of_ble_eq_true rfl⟩ ⟨Nat.le_of_ble_eq_true rfl, Nat.le_of_ble_eq_true rfl⟩ hl.1 rfl rfl (Nat.le_of_ble_eq_true rfl) dd_Reader_readInstruction_187) hS (fun H locs hP hS => ?_)
    clear hq
    refine lv_aload_n hx hb dd_Reader_readInstruction_190 rfl (lv_at hl 1 rfl) ?_
    rcases xp_try h with ⟨a30, u31, hq, h⟩ | ⟨kx, ux, hq, h⟩
    rotate_left
    · obtain ⟨rfl, rfl⟩ := xp_q h
      exact xk_up (xr_V (As := []) (rest := [.int a28, .int b2, .ref (ad 12)]) C hP hS (ct_Reader_readUnsigned htr hok hq) kq_Reader_103 54 7 rfl rfl ⟨rfl, rfl, Nat.le_of_ble_eq_true rfl, Nat.le_of_ble_eq_true rfl⟩ ⟨Nat.le_of_ble_eq_true rfl, Nat.le_of_ble_eq_true rfl⟩ hl.1 rfl rfl (Nat.le_of_ble_eq_true rfl) dd_Reader_readInstruction_191) hS hne C.2.2.2.2.2.2.1
    refine xk_goesL (xr_V (As := []) (rest := [.int a28, .int b2, .ref (ad 12)]) C hP hS (ct_Reader_readUnsigned htr hok hq) kq_Reader_103 54 7 rfl rfl ⟨rfl, rfl, Nat.le_of_ble_eq_true rfl, Nat.le_of_ble_eq_true rfl⟩ ⟨Nat.le_of_ble_eq_true rfl, Nat.le_of_ble_eq_true rfl⟩ hl.1 rfl rfl (Nat.le_of_ble_eq_true rfl) dd_Reader_readInstruction_191) hS (fun H locs hP hS => ?_)
    clear hq
    obtain ⟨rx, u32, hq, h⟩ := xp_seq h
    refine xk_goesV (xr_V (As := [.int b2, .int a28, .long a30]) (rest := []) C hP hS (ct_Code_add htr hok hq) kq_Reader_235 12 2 rfl rfl ⟨rfl, rfl, Nat.le_of_ble_eq_true rfl, Nat.le_of_ble_eq_true rfl⟩ ⟨Nat.le_of_ble_eq_true rfl, Nat.le_of_ble_eq_true rfl⟩ hl.1 rfl rfl (Nat.le_of_ble_eq_true rfl) dd_Reader_readInstruction_194) hS (fun H locs hP hS => ?_)
    clear hq
    refine lv_goto (tgt := 395) hx hb dd_Reader_readInstruction_197 (by decide) ?_
    refine lv_iload_n hx hb dd_Reader_readInstruction_395 rfl (lv_at hl 2 rfl) ?_
    obtain ⟨rfl, rfl⟩ := xp_r h
    exact xr_iret C hP hS dd_Reader_readInstruction_396
  have h := xp_f hc10 h
  by_cases hc11 : s0 = (122 : Int32)
  · have h := xp_t hc11 h
    refine lv_lookup (off := 215) (tgt := 260) hx hb dd_Reader_readInstruction_45 (by decide) (by rw [hc11]; rfl) (by decide) ?_
    refine lv_aload_n hx hb dd_Reader_readInstruction_260 rfl (lv_at hl 1 rfl) ?_
    refine lv_iconst (v := 0) hx hb dd_Reader_readInstruction_261 (by decide) ?_
    rcases xp_try h with ⟨rx, u33, hq, h⟩ | ⟨kx, ux, hq, h⟩
    rotate_left
    · obtain ⟨rfl, rfl⟩ := xp_q h
      exact xk_up (xr_V (As := [.int (0 : Int32)]) (rest := []) C hP hS (ct_Reader_expect htr hok hq) kq_Reader_179 54 7 rfl rfl ⟨rfl, rfl, Nat.le_of_ble_eq_true rfl, Nat.le_of_ble_eq_true rfl⟩ ⟨Nat.le_of_ble_eq_true rfl, Nat.le_of_ble_eq_true rfl⟩ hl.1 rfl rfl (Nat.le_of_ble_eq_true rfl) dd_Reader_readInstruction_262) hS hne C.2.2.2.2.2.2.1
    refine xk_goesV (xr_V (As := [.int (0 : Int32)]) (rest := []) C hP hS (ct_Reader_expect htr hok hq) kq_Reader_179 54 7 rfl rfl ⟨rfl, rfl, Nat.le_of_ble_eq_true rfl, Nat.le_of_ble_eq_true rfl⟩ ⟨Nat.le_of_ble_eq_true rfl, Nat.le_of_ble_eq_true rfl⟩ hl.1 rfl rfl (Nat.le_of_ble_eq_true rfl) dd_Reader_readInstruction_262) hS (fun H locs hP hS => ?_)
    clear hq
    refine lv_aload_n hx hb dd_Reader_readInstruction_265 rfl (lv_at hl 1 rfl) ?_
    refine gf_h_Reader_54_code C hP dd_Reader_readInstruction_266 ?_
    refine lv_iload_n hx hb dd_Reader_readInstruction_269 rfl (lv_at hl 3 rfl) ?_
    refine lv_iconst (v := 0) hx hb dd_Reader_readInstruction_270 (by decide) ?_
    refine lv_lconst (v := 0) hx hb dd_Reader_readInstruction_271 (by decide) ?_
    obtain ⟨rx, u34, hq, h⟩ := xp_seq h
    refine xk_goesV (xr_V (As := [.int b2, .int (0 : Int32), .long (0 : Int64)]) (rest := []) C hP hS (ct_Code_add htr hok hq) kq_Reader_235 12 2 rfl rfl ⟨rfl, rfl, Nat.le_of_ble_eq_true rfl, Nat.le_of_ble_eq_true rfl⟩ ⟨Nat.le_of_ble_eq_true rfl, Nat.le_of_ble_eq_true rfl⟩ hl.1 rfl rfl (Nat.le_of_ble_eq_true rfl) dd_Reader_readInstruction_272) hS (fun H locs hP hS => ?_)
    clear hq
    refine lv_goto (tgt := 395) hx hb dd_Reader_readInstruction_275 (by decide) ?_
    refine lv_iload_n hx hb dd_Reader_readInstruction_395 rfl (lv_at hl 2 rfl) ?_
    obtain ⟨rfl, rfl⟩ := xp_r h
    exact xr_iret C hP hS dd_Reader_readInstruction_396
  have h := xp_f hc11 h
  refine lv_lookup (off := 342) (tgt := 387) hx hb dd_Reader_readInstruction_45 (by decide) ((lv_osw hc0 (by decide)).trans ((lv_osw hc1 (by decide)).trans ((lv_osw hc2 (by decide)).trans ((lv_osw hc3 (by decide)).trans ((lv_osw hc4 (by decide)).trans ((lv_osw hc5 (by decide)).trans ((lv_osw hc6 (by decide)).trans ((lv_osw hc7 (by decide)).trans ((lv_osw hc8 (by decide)).trans ((lv_osw hc9 (by decide)).trans ((lv_osw hc10 (by decide)).trans ((lv_osw hc11 (by decide)).trans rfl)))))))))))) (by decide) ?_
  obtain ⟨rfl, rfl⟩ := xp_r h
  exact xr_throw C hP hS hne kz_Reader_0 hl.1 ⟨Nat.le_of_ble_eq_true rfl, Nat.le_of_ble_eq_true rfl, Nat.le_of_ble_eq_true rfl, Nat.le_of_ble_eq_true rfl⟩ dd_Reader_readInstruction_387 dd_Reader_readInstruction_390 dd_Reader_readInstruction_391 dd_Reader_readInstruction_394
set_option maxHeartbeats 4000000 in
set_option maxRecDepth 100000 in
theorem wj_Reader_readInstruction_26 {p : Program} {l : Launch} {e : Env} {s : State} {m : MethodId} {args : Array Value} {below : List Frame} {meth : Method} {c : Code} {D : va_G} {ad : Nat → Nat} {ca : Nat → ClassId} {ads : List Nat} {fu : Nat} (htr : l.stackTraces = false) (C : xk_C D kx_cl (kx_ty ca) (kw_h ad ca) ads "ModuleHouse$Reader" prog_9_method_30_code 4 (some .int) p e s m args meth c) (hne : c.exceptionTable.isEmpty = true) {u' : xk_St} {r : (Int32 ⊕ Nat)} {b1 : Int32} {b2 : Int32} {u : xk_St} {H : Heap} {locs : List Loc} {ls : Array Slot} (h : jb_Reader_readInstruction_26 fu  b1 b2 u = some (r, u')) (hP : va_P D kx_cl (kw_h ad ca u) H) (hS : va_S (xk_A ads s.heap.size) s.heap H locs) (hl : lv_has ls 4 [(0, .ref (ad 54)), (1, .int b1), (2, .int b2)]) : W p l e rm_Reader_readInstruction s m args below meth c H locs 0 0 (xk_MQ below (xk_Qc D kx_cl (kw_h ad ca) ads (xo_i r) u') args s (xk_A ads s.heap.size)) (F0 m 26 ls []) := by
  have hx := C.1.1
  have hb := C.1.2.1
  have hok := C.2.2.1
  obtain ⟨t0, hZ0, hT0⟩ := C.2.2.2.1.2.2.2.2.2.1
  obtain ⟨t1, hZ1, hT1⟩ := C.2.2.2.1.2.2.2.2.2.2.1
  obtain ⟨t2, hZ2, hT2⟩ := C.2.2.2.1.2.2.2.2.2.2.2
  unfold jb_Reader_readInstruction_26 at h
  refine lv_iload_n hx hb dd_Reader_readInstruction_26 rfl (lv_at hl 2 rfl) ?_
  refine lv_sipush (v := 286) hx hb dd_Reader_readInstruction_27 (by decide) ?_
  refine lv_icmp_le (tgt := 38) hx hb dd_Reader_readInstruction_30 (by decide) (fun hc => ?_) (fun hc => ?_)
  · have h := xp_t hc h
    refine va_gets hx hb hZ1 hS C.1.2.2.2.1 (C.1.2.2.2.2 _ (xk_c5 (w := Cond.fieldLink "ModuleHouse$Reader" 248 "ModuleHouse$Reader" "SHAPE" "[C") 31 rfl rfl)) (fun _ h => h) dd_Reader_readInstruction_38 ?_
    refine lv_iload_n hx hb dd_Reader_readInstruction_41 rfl (lv_at hl 2 rfl) ?_
    obtain ⟨hi, h⟩ := xp_g h
    refine va_tc hx hb hT1 hS hi rfl dd_Reader_readInstruction_42 ?_
    exact wj_Reader_readInstruction_43 htr C hne h hP hS (lv_sub hl [0, 1, 2] rfl)
  · have h := xp_f hc h
    refine lv_bipush (v := 33) hx hb dd_Reader_readInstruction_33 (by decide) ?_
    refine lv_goto (tgt := 43) hx hb dd_Reader_readInstruction_35 (by decide) ?_
    exact wj_Reader_readInstruction_43 htr C hne h hP hS (lv_sub hl [0, 1, 2] rfl)
set_option maxHeartbeats 4000000 in
set_option maxRecDepth 100000 in
theorem ct_Reader_readInstruction {l : Launch} {D : va_G} {ad : Nat → Nat} {ca : Nat → ClassId} {ads : List Nat} (htr : l.stackTraces = false) (hok : xk_ok (kw_h ad ca) ads) {fu : Nat} {x0 : Int32} {u u' : xk_St} {r : (Int32 ⊕ Nat)} (h : fm_Reader_readInstruction fu x0 u = some (r, u')) :
    ∀ sz, xk_Met l ⟨"ModuleHouse$Reader", "readInstruction", "(I)I"⟩ (Cond.code ⟨"ModuleHouse$Reader", "readInstruction", "(I)I"⟩ prog_9_method_30_code 4 (some .int) :: xk_gd) rm_Reader_readInstruction (xk_Pc D kx_cl (kx_ty ca) (kw_h ad ca) ads xk_F sz [.ref (ad 54), .int x0] u) (xk_Qc D kx_cl (kw_h ad ca) ads (xo_i r) u') (xk_A ads sz) := by
  unfold fm_Reader_readInstruction at h
  refine xk_con (by decide) htr hok (Nat.le_of_ble_eq_true rfl) (fun p e s m below meth c ls C hne hl hP => ?_)
  have hx := C.1.1
  have hb := C.1.2.1
  have hS : va_S (xk_A ads s.heap.size) s.heap s.heap [] := va_S.rf
  have hl : lv_has ls 4 [(0, .ref (ad 54)), (1, .int x0)] := hl
  obtain ⟨t0, hZ0, hT0⟩ := C.2.2.2.1.2.2.2.2.2.1
  obtain ⟨t1, hZ1, hT1⟩ := C.2.2.2.1.2.2.2.2.2.2.1
  obtain ⟨t2, hZ2, hT2⟩ := C.2.2.2.1.2.2.2.2.2.2.2
  refine lv_aload_n hx hb dd_Reader_readInstruction_0 rfl (lv_at hl 0 rfl) ?_
  rcases xp_try h with ⟨a1, u2, hq, h⟩ | ⟨kx, ux, hq, h⟩
  rotate_left
  · obtain ⟨rfl, rfl⟩ := xp_q h
    exact xk_up (xr_V (As := []) (rest := []) C hP hS (ct_Reader_readByte htr hok hq) kq_Reader_49 54 7 rfl rfl ⟨rfl, rfl, Nat.le_of_ble_eq_true rfl, Nat.le_of_ble_eq_true rfl⟩ ⟨Nat.le_of_ble_eq_true rfl, Nat.le_of_ble_eq_true rfl⟩ hl.1 rfl rfl (Nat.le_of_ble_eq_true rfl) dd_Reader_readInstruction_1) hS hne C.2.2.2.2.2.2.1
  refine xk_goesI (xr_V (As := []) (rest := []) C hP hS (ct_Reader_readByte htr hok hq) kq_Reader_49 54 7 rfl rfl ⟨rfl, rfl, Nat.le_of_ble_eq_true rfl, Nat.le_of_ble_eq_true rfl⟩ ⟨Nat.le_of_ble_eq_true rfl, Nat.le_of_ble_eq_true rfl⟩ hl.1 rfl rfl (Nat.le_of_ble_eq_true rfl) dd_Reader_readInstruction_1) hS (fun H locs hP hS => ?_)
  clear hq
  refine lv_istore_n (lv' := [(2, .int a1), (0, .ref (ad 54)), (1, .int x0)]) hx hb dd_Reader_readInstruction_4 rfl hl (by decide) rfl (fun ls hl => ?_)
  refine lv_iload_n hx hb dd_Reader_readInstruction_5 rfl (lv_at hl 0 rfl) ?_
  refine lv_sipush (v := 251) hx hb dd_Reader_readInstruction_6 (by decide) ?_
  refine lv_icmp_ne (tgt := 26) hx hb dd_Reader_readInstruction_9 (by decide) (fun hc => ?_) (fun hc => ?_)
  · have h := xp_f hc h
    exact wj_Reader_readInstruction_26 htr C hne h hP hS (lv_sub hl [1, 2, 0] rfl)
  · have h := xp_t hc h
    refine lv_sipush (v := 256) hx hb dd_Reader_readInstruction_12 (by decide) ?_
    refine lv_aload_n hx hb dd_Reader_readInstruction_15 rfl (lv_at hl 1 rfl) ?_
    rcases xp_try h with ⟨a35, u36, hq, h⟩ | ⟨kx, ux, hq, h⟩
    rotate_left
    · obtain ⟨rfl, rfl⟩ := xp_q h
      exact xk_up (xr_V (As := []) (rest := [.int (256 : Int32)]) C hP hS (ct_Reader_readNumber htr hok hq) kq_Reader_78 54 7 rfl rfl ⟨rfl, rfl, Nat.le_of_ble_eq_true rfl, Nat.le_of_ble_eq_true rfl⟩ ⟨Nat.le_of_ble_eq_true rfl, Nat.le_of_ble_eq_true rfl⟩ hl.1 rfl rfl (Nat.le_of_ble_eq_true rfl) dd_Reader_readInstruction_16) hS hne C.2.2.2.2.2.2.1
    refine xk_goesI (xr_V (As := []) (rest := [.int (256 : Int32)]) C hP hS (ct_Reader_readNumber htr hok hq) kq_Reader_78 54 7 rfl rfl ⟨rfl, rfl, Nat.le_of_ble_eq_true rfl, Nat.le_of_ble_eq_true rfl⟩ ⟨Nat.le_of_ble_eq_true rfl, Nat.le_of_ble_eq_true rfl⟩ hl.1 rfl rfl (Nat.le_of_ble_eq_true rfl) dd_Reader_readInstruction_16) hS (fun H locs hP hS => ?_)
    clear hq
    refine lv_bipush (v := 31) hx hb dd_Reader_readInstruction_19 (by decide) ?_
    refine va_mmin hx hb (C.1.2.2.1.trans hl.1.symm) C.1.2.2.2.1 (C.1.2.2.2.2 _ (xk_c4 (w := Cond.methodLink "ModuleHouse$Reader" 139 Lib.Math.min.name) 159 rfl rfl)) (C.1.2.2.2.2 _ (xk_c3 (w := Cond.static Lib.Math.min.name) 164 rfl rfl)) (C.1.2.2.2.2 _ (xk_c1 (w := Cond.initialized "java/lang/Math") 24 rfl rfl)) (C.1.2.2.2.2 _ (xk_c3 (w := Cond.code Lib.Math.min.name Lib.Math.min.code 2 (some .int)) 165 rfl rfl)) (Nat.le_of_ble_eq_true rfl) (Nat.le_of_ble_eq_true rfl) (Nat.zero_le _) (Nat.zero_le _) dd_Reader_readInstruction_21 ?_
    refine lv_iadd hx hb dd_Reader_readInstruction_24 ?_
    obtain ⟨a37, ea37, h⟩ := xp_let h
    refine xr_nami ea37 ?_
    refine lv_istore_n (lv' := [(2, .int a37), (0, .ref (ad 54)), (1, .int x0)]) hx hb dd_Reader_readInstruction_25 rfl hl (by decide) rfl (fun ls hl => ?_)
    exact wj_Reader_readInstruction_26 htr C hne h hP hS (lv_sub hl [1, 2, 0] rfl)
abbrev rm_Reader_readCode : Room := { frames := 11, cells := 1, slots := 6, locals := 216 }
noncomputable def jb_Reader_readCode_123 (fu : Nat) (k20 : Int32 → Int32 → Int32 → xk_St → Option ((Unit ⊕ Nat) × xk_St)) (b1 : Int32) (b2 : Int32) (b3 : Int32) (u : xk_St) : Option ((Unit ⊕ Nat) × xk_St) :=
  if (u.1 17) = (u.1 18) then ((xs_let (xs_I u 18 b1) fun u13 => xs_let (b3 + (1 : Int32)) fun a14 => k20 b1 b2 a14 u13)) else (some (.inr 0, u))
noncomputable def jb_Reader_readCode_95 (fu : Nat) (k20 : Int32 → Int32 → Int32 → xk_St → Option ((Unit ⊕ Nat) × xk_St)) : Nat → Int32 → Int32 → Int32 → Int32 → Int32 → xk_St → Option ((Unit ⊕ Nat) × xk_St)
  | 0 => fun _ _ _ _ _ _ => none
  | n + 1 => fun b1 b2 b3 b5 b6 u =>
    xs_let (jb_Reader_readCode_95 fu k20 n) fun k95 =>
    if (8192 : Int32) ≤ b6 then (jb_Reader_readCode_123 fu k20 b1 b2 b3 u) else (if b5 = (-1 : Int32) then (jb_Reader_readCode_123 fu k20 b1 b2 b3 u) else ((xs_try (fm_Reader_readInstruction fu b5 u) fun a15 u16 => xs_let (b6 + (1 : Int32)) fun a17 => k95 b1 b2 b3 a15 a17 u16)))
noncomputable def jb_Reader_readCode_20 (fu : Nat) : Nat → Int32 → Int32 → Int32 → xk_St → Option ((Unit ⊕ Nat) × xk_St)
  | 0 => fun _ _ _ _ => none
  | n + 1 => fun b1 b2 b3 u =>
    xs_let (jb_Reader_readCode_20 fu  n) fun k20 =>
    if b2 ≤ b3 then (some (.inl (()), u)) else ((xs_try (fm_Reader_readSize fu b1 u) fun a5 u6 => xs_let (xs_I u6 18 ((u6.1 17) + a5)) fun u7 => if (if (64 : Int32) < b3 then (64 : Int32) else b3) < 0 ∨ 65 ≤ (if (64 : Int32) < b3 then (64 : Int32) else b3).toNatClampNeg then none else xs_let (xs_A u7 13 (if (64 : Int32) < b3 then (64 : Int32) else b3).toNatClampNeg (u7.1 8)) fun u8 => xs_seq (fm_Code_add (6 : Int32) (0 : Int32) (0 : Int64) u8) fun _ u9 => xs_seq (fm_Code_opened (-1 : Int32) u9) fun a10 u11 => xs_try (fm_Reader_readLocals fu u11) fun _ u12 => jb_Reader_readCode_95 fu k20 fu b1 b2 b3 a10 (0 : Int32) u12))
noncomputable def fm_Reader_readCode (fu : Nat) (u : xk_St) : Option ((Unit ⊕ Nat) × xk_St) :=
  (xs_let (u.1 18) fun a1 => xs_try (fm_Reader_readNumber fu u) fun a2 u3 => xs_let (xs_I u3 5 a2) fun u4 => jb_Reader_readCode_20 fu fu a1 a2 (0 : Int32) u4)
set_option maxHeartbeats 4000000 in
set_option maxRecDepth 100000 in
theorem wj_Reader_readCode_123 {p : Program} {l : Launch} {e : Env} {s : State} {m : MethodId} {args : Array Value} {below : List Frame} {meth : Method} {c : Code} {D : va_G} {ad : Nat → Nat} {ca : Nat → ClassId} {ads : List Nat} {fu : Nat} (htr : l.stackTraces = false) (C : xk_C D kx_cl (kx_ty ca) (kw_h ad ca) ads "ModuleHouse$Reader" prog_9_method_28_code 7 none p e s m args meth c) (hne : c.exceptionTable.isEmpty = true) {u' : xk_St} {r : (Unit ⊕ Nat)} {k20 : Int32 → Int32 → Int32 → xk_St → Option ((Unit ⊕ Nat) × xk_St)} (hk20 : ∀ (c0 : Int32) (c1 : Int32) (c2 : Int32) (u : xk_St) (H : Heap) (locs : List Loc) (ls : Array Slot), k20 c0 c1 c2 u = some (r, u') → va_P D kx_cl (kw_h ad ca u) H → va_S (xk_A ads s.heap.size) s.heap H locs → lv_has ls 7 [(0, .ref (ad 54)), (1, .int c0), (2, .int c1), (3, .int c2)] → W p l e rm_Reader_readCode s m args below meth c H locs 0 0 (xk_MQ below (xk_Qc D kx_cl (kw_h ad ca) ads (xo_v r) u') args s (xk_A ads s.heap.size)) (F0 m 20 ls [])) {b1 : Int32} {b2 : Int32} {b3 : Int32} {u : xk_St} {H : Heap} {locs : List Loc} {ls : Array Slot} (h : jb_Reader_readCode_123 fu k20 b1 b2 b3 u = some (r, u')) (hP : va_P D kx_cl (kw_h ad ca u) H) (hS : va_S (xk_A ads s.heap.size) s.heap H locs) (hl : lv_has ls 7 [(0, .ref (ad 54)), (1, .int b1), (2, .int b2), (3, .int b3)]) : W p l e rm_Reader_readCode s m args below meth c H locs 0 0 (xk_MQ below (xk_Qc D kx_cl (kw_h ad ca) ads (xo_v r) u') args s (xk_A ads s.heap.size)) (F0 m 123 ls []) := by
  have hx := C.1.1
  have hb := C.1.2.1
  have hok := C.2.2.1
  unfold jb_Reader_readCode_123 at h
  refine lv_aload_n hx hb dd_Reader_readCode_123 rfl (lv_at hl 0 rfl) ?_
  refine gf_h_Reader_54_next C hP dd_Reader_readCode_124 ?_
  refine lv_aload_n hx hb dd_Reader_readCode_127 rfl (lv_at hl 0 rfl) ?_
  refine gf_h_Reader_54_end C hP dd_Reader_readCode_128 ?_
  refine lv_icmp_eq (tgt := 142) hx hb dd_Reader_readCode_131 (by decide) (fun hc => ?_) (fun hc => ?_)
  · have h := xp_t hc h
    refine lv_aload_n hx hb dd_Reader_readCode_142 rfl (lv_at hl 0 rfl) ?_
    refine lv_iload_n hx hb dd_Reader_readCode_143 rfl (lv_at hl 1 rfl) ?_
    refine pf_h_Reader_54_end C hP hS dd_Reader_readCode_144 (fun H locs hP hS => ?_)
    obtain ⟨u13, eu13, h⟩ := xp_let h
    rw [← eu13] at hP
    obtain ⟨a14, ea14, h⟩ := xp_let h
    refine lv_iinc (v := a14) (lv' := [(3, .int a14), (0, .ref (ad 54)), (1, .int b1), (2, .int b2)]) hx hb dd_Reader_readCode_147 hl (k := 3) rfl (by rw [ea14]; first | rfl | decide) (by decide) rfl (fun ls hl => ?_)
    refine lv_goto (tgt := 20) hx hb dd_Reader_readCode_150 (by decide) ?_
    exact hk20 b1 b2 a14 u13 _ _ _ h hP hS (lv_sub hl [1, 2, 3, 0] rfl)
  · have h := xp_f hc h
    obtain ⟨rfl, rfl⟩ := xp_r h
    exact xr_throw C hP hS hne kz_Reader_0 hl.1 ⟨Nat.le_of_ble_eq_true rfl, Nat.le_of_ble_eq_true rfl, Nat.le_of_ble_eq_true rfl, Nat.le_of_ble_eq_true rfl⟩ dd_Reader_readCode_134 dd_Reader_readCode_137 dd_Reader_readCode_138 dd_Reader_readCode_141
set_option maxHeartbeats 4000000 in
set_option maxRecDepth 100000 in
theorem wj_Reader_readCode_95 {p : Program} {l : Launch} {e : Env} {s : State} {m : MethodId} {args : Array Value} {below : List Frame} {meth : Method} {c : Code} {D : va_G} {ad : Nat → Nat} {ca : Nat → ClassId} {ads : List Nat} {fu : Nat} (htr : l.stackTraces = false) (C : xk_C D kx_cl (kx_ty ca) (kw_h ad ca) ads "ModuleHouse$Reader" prog_9_method_28_code 7 none p e s m args meth c) (hne : c.exceptionTable.isEmpty = true) {u' : xk_St} {r : (Unit ⊕ Nat)} {k20 : Int32 → Int32 → Int32 → xk_St → Option ((Unit ⊕ Nat) × xk_St)} (hk20 : ∀ (c0 : Int32) (c1 : Int32) (c2 : Int32) (u : xk_St) (H : Heap) (locs : List Loc) (ls : Array Slot), k20 c0 c1 c2 u = some (r, u') → va_P D kx_cl (kw_h ad ca u) H → va_S (xk_A ads s.heap.size) s.heap H locs → lv_has ls 7 [(0, .ref (ad 54)), (1, .int c0), (2, .int c1), (3, .int c2)] → W p l e rm_Reader_readCode s m args below meth c H locs 0 0 (xk_MQ below (xk_Qc D kx_cl (kw_h ad ca) ads (xo_v r) u') args s (xk_A ads s.heap.size)) (F0 m 20 ls [])) : ∀ {n : Nat} {b1 : Int32} {b2 : Int32} {b3 : Int32} {b5 : Int32} {b6 : Int32} {u : xk_St} {H : Heap} {locs : List Loc} {ls : Array Slot} (h : jb_Reader_readCode_95 fu k20 n b1 b2 b3 b5 b6 u = some (r, u')) (hP : va_P D kx_cl (kw_h ad ca u) H) (hS : va_S (xk_A ads s.heap.size) s.heap H locs) (hl : lv_has ls 7 [(0, .ref (ad 54)), (1, .int b1), (2, .int b2), (3, .int b3), (5, .int b5), (6, .int b6)]), W p l e rm_Reader_readCode s m args below meth c H locs 0 0 (xk_MQ below (xk_Qc D kx_cl (kw_h ad ca) ads (xo_v r) u') args s (xk_A ads s.heap.size)) (F0 m 95 ls []) := by
  intro n
  have hx := C.1.1
  have hb := C.1.2.1
  have hok := C.2.2.1
  induction n with
  | zero =>
    intro _ _ _ _ _ u H locs ls h
    have h : none = some (r, u') := h
    cases h
  | succ n ih =>
    intro b1 b2 b3 b5 b6 u H locs ls h hP hS hl
    unfold jb_Reader_readCode_95 at h
    obtain ⟨k95, ek95, h⟩ := xp_let h
    have hk95 : ∀ (c0 : Int32) (c1 : Int32) (c2 : Int32) (c3 : Int32) (c4 : Int32) (u : xk_St) (H : Heap) (locs : List Loc) (ls : Array Slot), k95 c0 c1 c2 c3 c4 u = some (r, u') → va_P D kx_cl (kw_h ad ca u) H → va_S (xk_A ads s.heap.size) s.heap H locs → lv_has ls 7 [(0, .ref (ad 54)), (1, .int c0), (2, .int c1), (3, .int c2), (5, .int c3), (6, .int c4)] → W p l e rm_Reader_readCode s m args below meth c H locs 0 0 (xk_MQ below (xk_Qc D kx_cl (kw_h ad ca) ads (xo_v r) u') args s (xk_A ads s.heap.size)) (F0 m 95 ls []) := by
      intro c0 c1 c2 c3 c4 u H locs ls h hP hS hl
      subst ek95
      exact ih h hP hS hl
    clear ih ek95
    refine lv_iload hx hb dd_Reader_readCode_95 (lv_at hl 5 rfl) ?_
    refine lv_sipush (v := 8192) hx hb dd_Reader_readCode_97 (by decide) ?_
    refine lv_icmp_ge (tgt := 123) hx hb dd_Reader_readCode_100 (by decide) (fun hc => ?_) (fun hc => ?_)
    · have h := xp_t hc h
      exact wj_Reader_readCode_123 htr C hne hk20 h hP hS (lv_sub hl [0, 1, 2, 3] rfl)
    · have h := xp_f hc h
      refine lv_iload hx hb dd_Reader_readCode_103 (lv_at hl 4 rfl) ?_
      refine lv_iconst (v := (-1)) hx hb dd_Reader_readCode_105 (by decide) ?_
      refine lv_icmp_eq (tgt := 123) hx hb dd_Reader_readCode_106 (by decide) (fun hc => ?_) (fun hc => ?_)
      · have h := xp_t hc h
        exact wj_Reader_readCode_123 htr C hne hk20 h hP hS (lv_sub hl [0, 1, 2, 3] rfl)
      · have h := xp_f hc h
        refine lv_aload_n hx hb dd_Reader_readCode_109 rfl (lv_at hl 0 rfl) ?_
        refine lv_iload hx hb dd_Reader_readCode_110 (lv_at hl 4 rfl) ?_
        rcases xp_try h with ⟨a15, u16, hq, h⟩ | ⟨kx, ux, hq, h⟩
        rotate_left
        · obtain ⟨rfl, rfl⟩ := xp_q h
          exact xk_up (xr_V (As := [.int b5]) (rest := []) C hP hS (ct_Reader_readInstruction htr hok hq) kq_Reader_245 54 7 rfl rfl ⟨rfl, rfl, Nat.le_of_ble_eq_true rfl, Nat.le_of_ble_eq_true rfl⟩ ⟨Nat.le_of_ble_eq_true rfl, Nat.le_of_ble_eq_true rfl⟩ hl.1 rfl rfl (Nat.le_of_ble_eq_true rfl) dd_Reader_readCode_112) hS hne C.2.2.2.2.2.2.1
        refine xk_goesI (xr_V (As := [.int b5]) (rest := []) C hP hS (ct_Reader_readInstruction htr hok hq) kq_Reader_245 54 7 rfl rfl ⟨rfl, rfl, Nat.le_of_ble_eq_true rfl, Nat.le_of_ble_eq_true rfl⟩ ⟨Nat.le_of_ble_eq_true rfl, Nat.le_of_ble_eq_true rfl⟩ hl.1 rfl rfl (Nat.le_of_ble_eq_true rfl) dd_Reader_readCode_112) hS (fun H locs hP hS => ?_)
        clear hq
        refine lv_istore (lv' := [(5, .int a15), (0, .ref (ad 54)), (1, .int b1), (2, .int b2), (3, .int b3), (6, .int b6)]) hx hb dd_Reader_readCode_115 hl (by decide) rfl (fun ls hl => ?_)
        obtain ⟨a17, ea17, h⟩ := xp_let h
        refine lv_iinc (v := a17) (lv' := [(6, .int a17), (5, .int a15), (0, .ref (ad 54)), (1, .int b1), (2, .int b2), (3, .int b3)]) hx hb dd_Reader_readCode_117 hl (k := 5) rfl (by rw [ea17]; first | rfl | decide) (by decide) rfl (fun ls hl => ?_)
        refine lv_goto (tgt := 95) hx hb dd_Reader_readCode_120 (by decide) ?_
        exact hk95 b1 b2 b3 a15 a17 u16 _ _ _ h hP hS (lv_sub hl [2, 3, 4, 5, 1, 0] rfl)
set_option maxHeartbeats 4000000 in
set_option maxRecDepth 100000 in
theorem wj_Reader_readCode_20 {p : Program} {l : Launch} {e : Env} {s : State} {m : MethodId} {args : Array Value} {below : List Frame} {meth : Method} {c : Code} {D : va_G} {ad : Nat → Nat} {ca : Nat → ClassId} {ads : List Nat} {fu : Nat} (htr : l.stackTraces = false) (C : xk_C D kx_cl (kx_ty ca) (kw_h ad ca) ads "ModuleHouse$Reader" prog_9_method_28_code 7 none p e s m args meth c) (hne : c.exceptionTable.isEmpty = true) {u' : xk_St} {r : (Unit ⊕ Nat)} : ∀ {n : Nat} {b1 : Int32} {b2 : Int32} {b3 : Int32} {u : xk_St} {H : Heap} {locs : List Loc} {ls : Array Slot} (h : jb_Reader_readCode_20 fu  n b1 b2 b3 u = some (r, u')) (hP : va_P D kx_cl (kw_h ad ca u) H) (hS : va_S (xk_A ads s.heap.size) s.heap H locs) (hl : lv_has ls 7 [(0, .ref (ad 54)), (1, .int b1), (2, .int b2), (3, .int b3)]), W p l e rm_Reader_readCode s m args below meth c H locs 0 0 (xk_MQ below (xk_Qc D kx_cl (kw_h ad ca) ads (xo_v r) u') args s (xk_A ads s.heap.size)) (F0 m 20 ls []) := by
  intro n
  have hx := C.1.1
  have hb := C.1.2.1
  have hok := C.2.2.1
  induction n with
  | zero =>
    intro _ _ _ u H locs ls h
    have h : none = some (r, u') := h
    cases h
  | succ n ih =>
    intro b1 b2 b3 u H locs ls h hP hS hl
    unfold jb_Reader_readCode_20 at h
    obtain ⟨k20, ek20, h⟩ := xp_let h
    have hk20 : ∀ (c0 : Int32) (c1 : Int32) (c2 : Int32) (u : xk_St) (H : Heap) (locs : List Loc) (ls : Array Slot), k20 c0 c1 c2 u = some (r, u') → va_P D kx_cl (kw_h ad ca u) H → va_S (xk_A ads s.heap.size) s.heap H locs → lv_has ls 7 [(0, .ref (ad 54)), (1, .int c0), (2, .int c1), (3, .int c2)] → W p l e rm_Reader_readCode s m args below meth c H locs 0 0 (xk_MQ below (xk_Qc D kx_cl (kw_h ad ca) ads (xo_v r) u') args s (xk_A ads s.heap.size)) (F0 m 20 ls []) := by
      intro c0 c1 c2 u H locs ls h hP hS hl
      subst ek20
      exact ih h hP hS hl
    clear ih ek20
    refine lv_iload_n hx hb dd_Reader_readCode_20 rfl (lv_at hl 3 rfl) ?_
    refine lv_iload_n hx hb dd_Reader_readCode_21 rfl (lv_at hl 2 rfl) ?_
    refine lv_icmp_ge (tgt := 153) hx hb dd_Reader_readCode_22 (by decide) (fun hc => ?_) (fun hc => ?_)
    · have h := xp_t hc h
      obtain ⟨rfl, rfl⟩ := xp_r h
      exact xr_vret C hP hS dd_Reader_readCode_153
    · have h := xp_f hc h
      refine lv_aload_n hx hb dd_Reader_readCode_25 rfl (lv_at hl 0 rfl) ?_
      refine lv_iload_n hx hb dd_Reader_readCode_26 rfl (lv_at hl 1 rfl) ?_
      rcases xp_try h with ⟨a5, u6, hq, h⟩ | ⟨kx, ux, hq, h⟩
      rotate_left
      · obtain ⟨rfl, rfl⟩ := xp_q h
        exact xk_up (xr_V (As := [.int b1]) (rest := []) C hP hS (ct_Reader_readSize htr hok hq) kq_Reader_56 54 7 rfl rfl ⟨rfl, rfl, Nat.le_of_ble_eq_true rfl, Nat.le_of_ble_eq_true rfl⟩ ⟨Nat.le_of_ble_eq_true rfl, Nat.le_of_ble_eq_true rfl⟩ hl.1 rfl rfl (Nat.le_of_ble_eq_true rfl) dd_Reader_readCode_27) hS hne C.2.2.2.2.2.2.1
      refine xk_goesI (xr_V (As := [.int b1]) (rest := []) C hP hS (ct_Reader_readSize htr hok hq) kq_Reader_56 54 7 rfl rfl ⟨rfl, rfl, Nat.le_of_ble_eq_true rfl, Nat.le_of_ble_eq_true rfl⟩ ⟨Nat.le_of_ble_eq_true rfl, Nat.le_of_ble_eq_true rfl⟩ hl.1 rfl rfl (Nat.le_of_ble_eq_true rfl) dd_Reader_readCode_27) hS (fun H locs hP hS => ?_)
      clear hq
      refine lv_istore (lv' := [(4, .int a5), (0, .ref (ad 54)), (1, .int b1), (2, .int b2), (3, .int b3)]) hx hb dd_Reader_readCode_30 hl (by decide) rfl (fun ls hl => ?_)
      refine lv_aload_n hx hb dd_Reader_readCode_32 rfl (lv_at hl 1 rfl) ?_
      refine lv_aload_n hx hb dd_Reader_readCode_33 rfl (lv_at hl 1 rfl) ?_
      refine gf_h_Reader_54_next C hP dd_Reader_readCode_34 ?_
      refine lv_iload hx hb dd_Reader_readCode_37 (lv_at hl 0 rfl) ?_
      refine lv_iadd hx hb dd_Reader_readCode_39 ?_
      refine pf_h_Reader_54_end C hP hS dd_Reader_readCode_40 (fun H locs hP hS => ?_)
      obtain ⟨u7, eu7, h⟩ := xp_let h
      rw [← eu7] at hP
      refine lv_aload_n hx hb dd_Reader_readCode_43 rfl (lv_at hl 1 rfl) ?_
      refine gf_h_Reader_54_module C hP dd_Reader_readCode_44 ?_
      refine gf_h_Reader_4_functions C hP dd_Reader_readCode_47 ?_
      refine gf_h_Reader_19_first C hP dd_Reader_readCode_50 ?_
      refine lv_iload_n hx hb dd_Reader_readCode_53 rfl (lv_at hl 4 rfl) ?_
      refine lv_bipush (v := 64) hx hb dd_Reader_readCode_54 (by decide) ?_
      refine va_mmin hx hb (C.1.2.2.1.trans hl.1.symm) C.1.2.2.2.1 (C.1.2.2.2.2 _ (xk_c4 (w := Cond.methodLink "ModuleHouse$Reader" 139 Lib.Math.min.name) 159 rfl rfl)) (C.1.2.2.2.2 _ (xk_c3 (w := Cond.static Lib.Math.min.name) 164 rfl rfl)) (C.1.2.2.2.2 _ (xk_c1 (w := Cond.initialized "java/lang/Math") 24 rfl rfl)) (C.1.2.2.2.2 _ (xk_c3 (w := Cond.code Lib.Math.min.name Lib.Math.min.code 2 (some .int)) 165 rfl rfl)) (Nat.le_of_ble_eq_true rfl) (Nat.le_of_ble_eq_true rfl) (Nat.zero_le _) (Nat.zero_le _) dd_Reader_readCode_56 ?_
      refine lv_aload_n hx hb dd_Reader_readCode_59 rfl (lv_at hl 1 rfl) ?_
      refine gf_h_Reader_54_code C hP dd_Reader_readCode_60 ?_
      refine gf_h_Reader_12_size C hP dd_Reader_readCode_63 ?_
      obtain ⟨hi, h⟩ := xp_g h
      refine as_h_21 C hP hS hi dd_Reader_readCode_66 (fun H locs hP hS => ?_)
      obtain ⟨u8, eu8, h⟩ := xp_let h
      rw [← eu8] at hP
      refine lv_aload_n hx hb dd_Reader_readCode_67 rfl (lv_at hl 1 rfl) ?_
      refine gf_h_Reader_54_code C hP dd_Reader_readCode_68 ?_
      refine lv_bipush (v := 6) hx hb dd_Reader_readCode_71 (by decide) ?_
      refine lv_iconst (v := 0) hx hb dd_Reader_readCode_73 (by decide) ?_
      refine lv_lconst (v := 0) hx hb dd_Reader_readCode_74 (by decide) ?_
      obtain ⟨rx, u9, hq, h⟩ := xp_seq h
      refine xk_goesV (xr_V (As := [.int (6 : Int32), .int (0 : Int32), .long (0 : Int64)]) (rest := []) C hP hS (ct_Code_add htr hok hq) kq_Reader_235 12 2 rfl rfl ⟨rfl, rfl, Nat.le_of_ble_eq_true rfl, Nat.le_of_ble_eq_true rfl⟩ ⟨Nat.le_of_ble_eq_true rfl, Nat.le_of_ble_eq_true rfl⟩ hl.1 rfl rfl (Nat.le_of_ble_eq_true rfl) dd_Reader_readCode_75) hS (fun H locs hP hS => ?_)
      clear hq
      refine lv_aload_n hx hb dd_Reader_readCode_78 rfl (lv_at hl 1 rfl) ?_
      refine gf_h_Reader_54_code C hP dd_Reader_readCode_79 ?_
      refine lv_iconst (v := (-1)) hx hb dd_Reader_readCode_82 (by decide) ?_
      obtain ⟨a10, u11, hq, h⟩ := xp_seq h
      refine xk_goesI (xr_V (As := [.int (-1 : Int32)]) (rest := []) C hP hS (ct_Code_opened htr hok hq) kq_Reader_239 12 2 rfl rfl ⟨rfl, rfl, Nat.le_of_ble_eq_true rfl, Nat.le_of_ble_eq_true rfl⟩ ⟨Nat.le_of_ble_eq_true rfl, Nat.le_of_ble_eq_true rfl⟩ hl.1 rfl rfl (Nat.le_of_ble_eq_true rfl) dd_Reader_readCode_83) hS (fun H locs hP hS => ?_)
      clear hq
      refine lv_istore (lv' := [(5, .int a10), (4, .int a5), (0, .ref (ad 54)), (1, .int b1), (2, .int b2), (3, .int b3)]) hx hb dd_Reader_readCode_86 hl (by decide) rfl (fun ls hl => ?_)
      refine lv_aload_n hx hb dd_Reader_readCode_88 rfl (lv_at hl 2 rfl) ?_
      rcases xp_try h with ⟨rx, u12, hq, h⟩ | ⟨kx, ux, hq, h⟩
      rotate_left
      · obtain ⟨rfl, rfl⟩ := xp_q h
        exact xk_up (xr_V (As := []) (rest := []) C hP hS (ct_Reader_readLocals htr hok hq) kq_Reader_242 54 7 rfl rfl ⟨rfl, rfl, Nat.le_of_ble_eq_true rfl, Nat.le_of_ble_eq_true rfl⟩ ⟨Nat.le_of_ble_eq_true rfl, Nat.le_of_ble_eq_true rfl⟩ hl.1 rfl rfl (Nat.le_of_ble_eq_true rfl) dd_Reader_readCode_89) hS hne C.2.2.2.2.2.2.1
      refine xk_goesV (xr_V (As := []) (rest := []) C hP hS (ct_Reader_readLocals htr hok hq) kq_Reader_242 54 7 rfl rfl ⟨rfl, rfl, Nat.le_of_ble_eq_true rfl, Nat.le_of_ble_eq_true rfl⟩ ⟨Nat.le_of_ble_eq_true rfl, Nat.le_of_ble_eq_true rfl⟩ hl.1 rfl rfl (Nat.le_of_ble_eq_true rfl) dd_Reader_readCode_89) hS (fun H locs hP hS => ?_)
      clear hq
      refine lv_iconst (v := 0) hx hb dd_Reader_readCode_92 (by decide) ?_
      refine lv_istore (lv' := [(6, .int (0 : Int32)), (5, .int a10), (4, .int a5), (0, .ref (ad 54)), (1, .int b1), (2, .int b2), (3, .int b3)]) hx hb dd_Reader_readCode_93 hl (by decide) rfl (fun ls hl => ?_)
      exact wj_Reader_readCode_95 htr C hne hk20 h hP hS (lv_sub hl [3, 4, 5, 6, 1, 0] rfl)
set_option maxHeartbeats 4000000 in
set_option maxRecDepth 100000 in
theorem ct_Reader_readCode {l : Launch} {D : va_G} {ad : Nat → Nat} {ca : Nat → ClassId} {ads : List Nat} (htr : l.stackTraces = false) (hok : xk_ok (kw_h ad ca) ads) {fu : Nat} {u u' : xk_St} {r : (Unit ⊕ Nat)} (h : fm_Reader_readCode fu u = some (r, u')) :
    ∀ sz, xk_Met l ⟨"ModuleHouse$Reader", "readCode", "()V"⟩ (Cond.code ⟨"ModuleHouse$Reader", "readCode", "()V"⟩ prog_9_method_28_code 7 none :: xk_gd) rm_Reader_readCode (xk_Pc D kx_cl (kx_ty ca) (kw_h ad ca) ads xk_F sz [.ref (ad 54)] u) (xk_Qc D kx_cl (kw_h ad ca) ads (xo_v r) u') (xk_A ads sz) := by
  unfold fm_Reader_readCode at h
  refine xk_con (by decide) htr hok (Nat.le_of_ble_eq_true rfl) (fun p e s m below meth c ls C hne hl hP => ?_)
  have hx := C.1.1
  have hb := C.1.2.1
  have hS : va_S (xk_A ads s.heap.size) s.heap s.heap [] := va_S.rf
  have hl : lv_has ls 7 [(0, .ref (ad 54))] := hl
  refine lv_aload_n hx hb dd_Reader_readCode_0 rfl (lv_at hl 0 rfl) ?_
  refine gf_h_Reader_54_end C hP dd_Reader_readCode_1 ?_
  obtain ⟨a1, ea1, h⟩ := xp_let h
  refine xr_nami ea1 ?_
  refine lv_istore_n (lv' := [(1, .int a1), (0, .ref (ad 54))]) hx hb dd_Reader_readCode_4 rfl hl (by decide) rfl (fun ls hl => ?_)
  refine lv_aload_n hx hb dd_Reader_readCode_5 rfl (lv_at hl 1 rfl) ?_
  rcases xp_try h with ⟨a2, u3, hq, h⟩ | ⟨kx, ux, hq, h⟩
  rotate_left
  · obtain ⟨rfl, rfl⟩ := xp_q h
    exact xk_up (xr_V (As := []) (rest := []) C hP hS (ct_Reader_readNumber htr hok hq) kq_Reader_78 54 7 rfl rfl ⟨rfl, rfl, Nat.le_of_ble_eq_true rfl, Nat.le_of_ble_eq_true rfl⟩ ⟨Nat.le_of_ble_eq_true rfl, Nat.le_of_ble_eq_true rfl⟩ hl.1 rfl rfl (Nat.le_of_ble_eq_true rfl) dd_Reader_readCode_6) hS hne C.2.2.2.2.2.2.1
  refine xk_goesI (xr_V (As := []) (rest := []) C hP hS (ct_Reader_readNumber htr hok hq) kq_Reader_78 54 7 rfl rfl ⟨rfl, rfl, Nat.le_of_ble_eq_true rfl, Nat.le_of_ble_eq_true rfl⟩ ⟨Nat.le_of_ble_eq_true rfl, Nat.le_of_ble_eq_true rfl⟩ hl.1 rfl rfl (Nat.le_of_ble_eq_true rfl) dd_Reader_readCode_6) hS (fun H locs hP hS => ?_)
  clear hq
  refine lv_istore_n (lv' := [(2, .int a2), (1, .int a1), (0, .ref (ad 54))]) hx hb dd_Reader_readCode_9 rfl hl (by decide) rfl (fun ls hl => ?_)
  refine lv_aload_n hx hb dd_Reader_readCode_10 rfl (lv_at hl 2 rfl) ?_
  refine gf_h_Reader_54_module C hP dd_Reader_readCode_11 ?_
  refine lv_iload_n hx hb dd_Reader_readCode_14 rfl (lv_at hl 0 rfl) ?_
  refine pf_h_Reader_4_bodies C hP hS dd_Reader_readCode_15 (fun H locs hP hS => ?_)
  obtain ⟨u4, eu4, h⟩ := xp_let h
  rw [← eu4] at hP
  refine lv_iconst (v := 0) hx hb dd_Reader_readCode_18 (by decide) ?_
  refine lv_istore_n (lv' := [(3, .int (0 : Int32)), (2, .int a2), (1, .int a1), (0, .ref (ad 54))]) hx hb dd_Reader_readCode_19 rfl hl (by decide) rfl (fun ls hl => ?_)
  exact wj_Reader_readCode_20 htr C hne h hP hS (lv_sub hl [3, 2, 1, 0] rfl)
abbrev rm_Reader_readModule : Room := { frames := 12, cells := 1, slots := 6, locals := 242 }
noncomputable def jb_Reader_readModule_281 (fu : Nat) (k62 : Int32 → Int32 → Int32 → xk_St → Option ((Unit ⊕ Nat) × xk_St)) (b2 : Int32) (b3 : Int32) (b4 : Int32) (b5 : Int32) (u : xk_St) : Option ((Unit ⊕ Nat) × xk_St) :=
  if (u.1 17) = (u.1 18) then ((xs_let (if b3 < b5 then b5 else b3) fun a10 => xs_let (xs_I u 18 b2) fun u11 => xs_let (b4 + (1 : Int32)) fun a12 => k62 b2 a10 a12 u11)) else (some (.inr 0, u))
noncomputable def jb_Reader_readModule_277 (fu : Nat) (k62 : Int32 → Int32 → Int32 → xk_St → Option ((Unit ⊕ Nat) × xk_St)) (b2 : Int32) (b3 : Int32) (b4 : Int32) (b5 : Int32) (u : xk_St) : Option ((Unit ⊕ Nat) × xk_St) :=
  (xs_try (fm_Reader_readData fu u) fun _ u14 => jb_Reader_readModule_281 fu k62 b2 b3 b4 b5 u14)
noncomputable def jb_Reader_readModule_116 (fu : Nat) (k62 : Int32 → Int32 → Int32 → xk_St → Option ((Unit ⊕ Nat) × xk_St)) (b2 : Int32) (b3 : Int32) (b4 : Int32) (b5 : Int32) (u : xk_St) : Option ((Unit ⊕ Nat) × xk_St) :=
  (xs_try (fm_Reader_readSize fu b2 u) fun a6 u7 => xs_let (xs_I u7 18 ((u7.1 17) + a6)) fun u8 => if b5 = (0 : Int32) then ((xs_let (xs_I u8 17 (u8.1 18)) fun u9 => jb_Reader_readModule_281 fu k62 b2 b3 b4 b5 u9)) else if b5 = (1 : Int32) then ((xs_try (fm_Reader_readTypes fu u8) fun _ u13 => jb_Reader_readModule_281 fu k62 b2 b3 b4 b5 u13)) else if b5 = (2 : Int32) then (jb_Reader_readModule_277 fu k62 b2 b3 b4 b5 u8) else if b5 = (3 : Int32) then ((xs_try (fm_Reader_readFunctions fu u8) fun _ u15 => jb_Reader_readModule_281 fu k62 b2 b3 b4 b5 u15)) else if b5 = (4 : Int32) then ((xs_try (fm_Reader_readTables fu u8) fun _ u16 => jb_Reader_readModule_281 fu k62 b2 b3 b4 b5 u16)) else if b5 = (5 : Int32) then ((xs_try (fm_Reader_readMemories fu u8) fun _ u17 => jb_Reader_readModule_281 fu k62 b2 b3 b4 b5 u17)) else if b5 = (6 : Int32) then ((xs_try (fm_Reader_readGlobals fu u8) fun _ u18 => jb_Reader_readModule_281 fu k62 b2 b3 b4 b5 u18)) else if b5 = (7 : Int32) then ((xs_try (fm_Reader_readExports fu u8) fun _ u19 => jb_Reader_readModule_281 fu k62 b2 b3 b4 b5 u19)) else if b5 = (8 : Int32) then ((xs_try (fm_Reader_readNumber fu u8) fun a20 u21 => xs_let (xs_I u21 6 a20) fun u22 => jb_Reader_readModule_281 fu k62 b2 b3 b4 b5 u22)) else if b5 = (9 : Int32) then ((xs_try (fm_Reader_readElements fu u8) fun _ u23 => jb_Reader_readModule_281 fu k62 b2 b3 b4 b5 u23)) else if b5 = (10 : Int32) then ((xs_try (fm_Reader_readCode fu u8) fun _ u24 => jb_Reader_readModule_281 fu k62 b2 b3 b4 b5 u24)) else (jb_Reader_readModule_277 fu k62 b2 b3 b4 b5 u8))
noncomputable def jb_Reader_readModule_62 (fu : Nat) : Nat → Int32 → Int32 → Int32 → xk_St → Option ((Unit ⊕ Nat) × xk_St)
  | 0 => fun _ _ _ _ => none
  | n + 1 => fun b2 b3 b4 u =>
    xs_let (jb_Reader_readModule_62 fu  n) fun k62 =>
    if (8192 : Int32) ≤ b4 then (some (.inl (()), u)) else (if b2 ≤ (u.1 17) then (some (.inl (()), u)) else ((xs_try (fm_Reader_readByte u) fun a4 u5 => if a4 = (0 : Int32) then (jb_Reader_readModule_116 fu k62 b2 b3 b4 a4 u5) else (if a4 ≤ b3 then (some (.inr 0, u5)) else (if a4 = (2 : Int32) then (some (.inr 0, u5)) else (if a4 ≤ (11 : Int32) then (jb_Reader_readModule_116 fu k62 b2 b3 b4 a4 u5) else (some (.inr 0, u5))))))))
noncomputable def jb_Reader_readModule_23 (fu : Nat) : Nat → Int32 → Int32 → xk_St → Option ((Unit ⊕ Nat) × xk_St)
  | 0 => fun _ _ _ => none
  | n + 1 => fun b2 b3 u =>
    xs_let (jb_Reader_readModule_23 fu  n) fun k23 =>
    if (8 : Int32) ≤ b3 then (jb_Reader_readModule_62 fu fu b2 (0 : Int32) (0 : Int32) u) else ((xs_try (fm_Reader_readByte u) fun a25 u26 => if b3 < 0 ∨ 8 ≤ b3.toNatClampNeg then none else if a25 = (xt_H b3.toNatClampNeg) then ((xs_let (b3 + (1 : Int32)) fun a27 => k23 b2 a27 u26)) else (some (.inr 0, u26))))
noncomputable def fm_Reader_readModule (fu : Nat) (x1 : Int32) (u : xk_St) : Option ((Unit ⊕ Nat) × xk_St) :=
  (if (0 : Int32) < 0 ∨ (0 : Int32) < 0 ∨ x1 < 0 ∨ 8192 < (0 : Int32).toNatClampNeg + x1.toNatClampNeg ∨ 8192 < (0 : Int32).toNatClampNeg + x1.toNatClampNeg then none else xs_if (∀ i, i < x1.toNatClampNeg → fits .byte (.int (u.2.2.1 0 ((0 : Int32).toNatClampNeg + i))) = true) <| xs_let (xs_AA u 1 (va_cpy (u.2.2.1 0) (u.2.2.1 1) (0 : Int32).toNatClampNeg (0 : Int32).toNatClampNeg x1.toNatClampNeg)) fun u1 => xs_let (xs_I u1 17 (0 : Int32)) fun u2 => xs_let (xs_I u2 18 x1) fun u3 => jb_Reader_readModule_23 fu fu x1 (0 : Int32) u3)
set_option maxHeartbeats 4000000 in
set_option maxRecDepth 100000 in
theorem wj_Reader_readModule_281 {p : Program} {l : Launch} {e : Env} {s : State} {m : MethodId} {args : Array Value} {below : List Frame} {meth : Method} {c : Code} {D : va_G} {ad : Nat → Nat} {ca : Nat → ClassId} {ads : List Nat} {fu : Nat} (htr : l.stackTraces = false) (C : xk_C D kx_cl (kx_ty ca) (kw_h ad ca) ads "ModuleHouse$Reader" prog_9_method_2_code 7 none p e s m args meth c) (hne : c.exceptionTable.isEmpty = true) {u' : xk_St} {r : (Unit ⊕ Nat)} {k62 : Int32 → Int32 → Int32 → xk_St → Option ((Unit ⊕ Nat) × xk_St)} (hk62 : ∀ (c0 : Int32) (c1 : Int32) (c2 : Int32) (u : xk_St) (H : Heap) (locs : List Loc) (ls : Array Slot), k62 c0 c1 c2 u = some (r, u') → va_P D kx_cl (kw_h ad ca u) H → va_S (xk_A ads s.heap.size) s.heap H locs → lv_has ls 7 [(0, .ref (ad 54)), (2, .int c0), (3, .int c1), (4, .int c2)] → W p l e rm_Reader_readModule s m args below meth c H locs 0 0 (xk_MQ below (xk_Qc D kx_cl (kw_h ad ca) ads (xo_v r) u') args s (xk_A ads s.heap.size)) (F0 m 62 ls [])) {b2 : Int32} {b3 : Int32} {b4 : Int32} {b5 : Int32} {u : xk_St} {H : Heap} {locs : List Loc} {ls : Array Slot} (h : jb_Reader_readModule_281 fu k62 b2 b3 b4 b5 u = some (r, u')) (hP : va_P D kx_cl (kw_h ad ca u) H) (hS : va_S (xk_A ads s.heap.size) s.heap H locs) (hl : lv_has ls 7 [(0, .ref (ad 54)), (2, .int b2), (3, .int b3), (4, .int b4), (5, .int b5)]) : W p l e rm_Reader_readModule s m args below meth c H locs 0 0 (xk_MQ below (xk_Qc D kx_cl (kw_h ad ca) ads (xo_v r) u') args s (xk_A ads s.heap.size)) (F0 m 281 ls []) := by
  have hx := C.1.1
  have hb := C.1.2.1
  have hok := C.2.2.1
  obtain ⟨t0, hZ0, hT0⟩ := C.2.2.2.1.2.2.2.2.2.1
  obtain ⟨t1, hZ1, hT1⟩ := C.2.2.2.1.2.2.2.2.2.2.1
  obtain ⟨t2, hZ2, hT2⟩ := C.2.2.2.1.2.2.2.2.2.2.2
  unfold jb_Reader_readModule_281 at h
  refine lv_aload_n hx hb dd_Reader_readModule_281 rfl (lv_at hl 0 rfl) ?_
  refine gf_h_Reader_54_next C hP dd_Reader_readModule_282 ?_
  refine lv_aload_n hx hb dd_Reader_readModule_285 rfl (lv_at hl 0 rfl) ?_
  refine gf_h_Reader_54_end C hP dd_Reader_readModule_286 ?_
  refine lv_icmp_eq (tgt := 300) hx hb dd_Reader_readModule_289 (by decide) (fun hc => ?_) (fun hc => ?_)
  · have h := xp_t hc h
    refine lv_iload_n hx hb dd_Reader_readModule_300 rfl (lv_at hl 2 rfl) ?_
    refine lv_iload hx hb dd_Reader_readModule_301 (lv_at hl 4 rfl) ?_
    refine va_mmax hx hb (C.1.2.2.1.trans hl.1.symm) C.1.2.2.2.1 (C.1.2.2.2.2 _ (xk_c5 (w := Cond.methodLink "ModuleHouse$Reader" 93 Lib.Math.max.name) 68 rfl rfl)) (C.1.2.2.2.2 _ (xk_c3 (w := Cond.static Lib.Math.max.name) 146 rfl rfl)) (C.1.2.2.2.2 _ (xk_c1 (w := Cond.initialized "java/lang/Math") 24 rfl rfl)) (C.1.2.2.2.2 _ (xk_c3 (w := Cond.code Lib.Math.max.name Lib.Math.max.code 2 (some .int)) 147 rfl rfl)) (Nat.le_of_ble_eq_true rfl) (Nat.le_of_ble_eq_true rfl) (Nat.zero_le _) (Nat.zero_le _) dd_Reader_readModule_303 ?_
    obtain ⟨a10, ea10, h⟩ := xp_let h
    refine xr_nami ea10 ?_
    refine lv_istore_n (lv' := [(3, .int a10), (0, .ref (ad 54)), (2, .int b2), (4, .int b4), (5, .int b5)]) hx hb dd_Reader_readModule_306 rfl hl (by decide) rfl (fun ls hl => ?_)
    refine lv_aload_n hx hb dd_Reader_readModule_307 rfl (lv_at hl 1 rfl) ?_
    refine lv_iload_n hx hb dd_Reader_readModule_308 rfl (lv_at hl 2 rfl) ?_
    refine pf_h_Reader_54_end C hP hS dd_Reader_readModule_309 (fun H locs hP hS => ?_)
    obtain ⟨u11, eu11, h⟩ := xp_let h
    rw [← eu11] at hP
    obtain ⟨a12, ea12, h⟩ := xp_let h
    refine lv_iinc (v := a12) (lv' := [(4, .int a12), (3, .int a10), (0, .ref (ad 54)), (2, .int b2), (5, .int b5)]) hx hb dd_Reader_readModule_312 hl (k := 3) rfl (by rw [ea12]; first | rfl | decide) (by decide) rfl (fun ls hl => ?_)
    refine lv_goto (tgt := 62) hx hb dd_Reader_readModule_315 (by decide) ?_
    exact hk62 b2 a10 a12 u11 _ _ _ h hP hS (lv_sub hl [2, 3, 1, 0] rfl)
  · have h := xp_f hc h
    obtain ⟨rfl, rfl⟩ := xp_r h
    exact xr_throw C hP hS hne kz_Reader_0 hl.1 ⟨Nat.le_of_ble_eq_true rfl, Nat.le_of_ble_eq_true rfl, Nat.le_of_ble_eq_true rfl, Nat.le_of_ble_eq_true rfl⟩ dd_Reader_readModule_292 dd_Reader_readModule_295 dd_Reader_readModule_296 dd_Reader_readModule_299
set_option maxHeartbeats 4000000 in
set_option maxRecDepth 100000 in
theorem wj_Reader_readModule_277 {p : Program} {l : Launch} {e : Env} {s : State} {m : MethodId} {args : Array Value} {below : List Frame} {meth : Method} {c : Code} {D : va_G} {ad : Nat → Nat} {ca : Nat → ClassId} {ads : List Nat} {fu : Nat} (htr : l.stackTraces = false) (C : xk_C D kx_cl (kx_ty ca) (kw_h ad ca) ads "ModuleHouse$Reader" prog_9_method_2_code 7 none p e s m args meth c) (hne : c.exceptionTable.isEmpty = true) {u' : xk_St} {r : (Unit ⊕ Nat)} {k62 : Int32 → Int32 → Int32 → xk_St → Option ((Unit ⊕ Nat) × xk_St)} (hk62 : ∀ (c0 : Int32) (c1 : Int32) (c2 : Int32) (u : xk_St) (H : Heap) (locs : List Loc) (ls : Array Slot), k62 c0 c1 c2 u = some (r, u') → va_P D kx_cl (kw_h ad ca u) H → va_S (xk_A ads s.heap.size) s.heap H locs → lv_has ls 7 [(0, .ref (ad 54)), (2, .int c0), (3, .int c1), (4, .int c2)] → W p l e rm_Reader_readModule s m args below meth c H locs 0 0 (xk_MQ below (xk_Qc D kx_cl (kw_h ad ca) ads (xo_v r) u') args s (xk_A ads s.heap.size)) (F0 m 62 ls [])) {b2 : Int32} {b3 : Int32} {b4 : Int32} {b5 : Int32} {u : xk_St} {H : Heap} {locs : List Loc} {ls : Array Slot} (h : jb_Reader_readModule_277 fu k62 b2 b3 b4 b5 u = some (r, u')) (hP : va_P D kx_cl (kw_h ad ca u) H) (hS : va_S (xk_A ads s.heap.size) s.heap H locs) (hl : lv_has ls 7 [(0, .ref (ad 54)), (2, .int b2), (3, .int b3), (4, .int b4), (5, .int b5)]) : W p l e rm_Reader_readModule s m args below meth c H locs 0 0 (xk_MQ below (xk_Qc D kx_cl (kw_h ad ca) ads (xo_v r) u') args s (xk_A ads s.heap.size)) (F0 m 277 ls []) := by
  have hx := C.1.1
  have hb := C.1.2.1
  have hok := C.2.2.1
  obtain ⟨t0, hZ0, hT0⟩ := C.2.2.2.1.2.2.2.2.2.1
  obtain ⟨t1, hZ1, hT1⟩ := C.2.2.2.1.2.2.2.2.2.2.1
  obtain ⟨t2, hZ2, hT2⟩ := C.2.2.2.1.2.2.2.2.2.2.2
  unfold jb_Reader_readModule_277 at h
  refine lv_aload_n hx hb dd_Reader_readModule_277 rfl (lv_at hl 0 rfl) ?_
  rcases xp_try h with ⟨rx, u14, hq, h⟩ | ⟨kx, ux, hq, h⟩
  rotate_left
  · obtain ⟨rfl, rfl⟩ := xp_q h
    exact xk_up (xr_V (As := []) (rest := []) C hP hS (ct_Reader_readData htr hok hq) kq_Reader_90 54 7 rfl rfl ⟨rfl, rfl, Nat.le_of_ble_eq_true rfl, Nat.le_of_ble_eq_true rfl⟩ ⟨Nat.le_of_ble_eq_true rfl, Nat.le_of_ble_eq_true rfl⟩ hl.1 rfl rfl (Nat.le_of_ble_eq_true rfl) dd_Reader_readModule_278) hS hne C.2.2.2.2.2.2.1
  refine xk_goesV (xr_V (As := []) (rest := []) C hP hS (ct_Reader_readData htr hok hq) kq_Reader_90 54 7 rfl rfl ⟨rfl, rfl, Nat.le_of_ble_eq_true rfl, Nat.le_of_ble_eq_true rfl⟩ ⟨Nat.le_of_ble_eq_true rfl, Nat.le_of_ble_eq_true rfl⟩ hl.1 rfl rfl (Nat.le_of_ble_eq_true rfl) dd_Reader_readModule_278) hS (fun H locs hP hS => ?_)
  clear hq
  exact wj_Reader_readModule_281 htr C hne hk62 h hP hS (lv_sub hl [0, 1, 2, 3, 4] rfl)
set_option maxHeartbeats 4000000 in
set_option maxRecDepth 100000 in
theorem wj_Reader_readModule_116 {p : Program} {l : Launch} {e : Env} {s : State} {m : MethodId} {args : Array Value} {below : List Frame} {meth : Method} {c : Code} {D : va_G} {ad : Nat → Nat} {ca : Nat → ClassId} {ads : List Nat} {fu : Nat} (htr : l.stackTraces = false) (C : xk_C D kx_cl (kx_ty ca) (kw_h ad ca) ads "ModuleHouse$Reader" prog_9_method_2_code 7 none p e s m args meth c) (hne : c.exceptionTable.isEmpty = true) {u' : xk_St} {r : (Unit ⊕ Nat)} {k62 : Int32 → Int32 → Int32 → xk_St → Option ((Unit ⊕ Nat) × xk_St)} (hk62 : ∀ (c0 : Int32) (c1 : Int32) (c2 : Int32) (u : xk_St) (H : Heap) (locs : List Loc) (ls : Array Slot), k62 c0 c1 c2 u = some (r, u') → va_P D kx_cl (kw_h ad ca u) H → va_S (xk_A ads s.heap.size) s.heap H locs → lv_has ls 7 [(0, .ref (ad 54)), (2, .int c0), (3, .int c1), (4, .int c2)] → W p l e rm_Reader_readModule s m args below meth c H locs 0 0 (xk_MQ below (xk_Qc D kx_cl (kw_h ad ca) ads (xo_v r) u') args s (xk_A ads s.heap.size)) (F0 m 62 ls [])) {b2 : Int32} {b3 : Int32} {b4 : Int32} {b5 : Int32} {u : xk_St} {H : Heap} {locs : List Loc} {ls : Array Slot} (h : jb_Reader_readModule_116 fu k62 b2 b3 b4 b5 u = some (r, u')) (hP : va_P D kx_cl (kw_h ad ca u) H) (hS : va_S (xk_A ads s.heap.size) s.heap H locs) (hl : lv_has ls 7 [(0, .ref (ad 54)), (2, .int b2), (3, .int b3), (4, .int b4), (5, .int b5)]) : W p l e rm_Reader_readModule s m args below meth c H locs 0 0 (xk_MQ below (xk_Qc D kx_cl (kw_h ad ca) ads (xo_v r) u') args s (xk_A ads s.heap.size)) (F0 m 116 ls []) := by
  have hx := C.1.1
  have hb := C.1.2.1
  have hok := C.2.2.1
  obtain ⟨t0, hZ0, hT0⟩ := C.2.2.2.1.2.2.2.2.2.1
  obtain ⟨t1, hZ1, hT1⟩ := C.2.2.2.1.2.2.2.2.2.2.1
  obtain ⟨t2, hZ2, hT2⟩ := C.2.2.2.1.2.2.2.2.2.2.2
  unfold jb_Reader_readModule_116 at h
  refine lv_aload_n hx hb dd_Reader_readModule_116 rfl (lv_at hl 0 rfl) ?_
  refine lv_iload_n hx hb dd_Reader_readModule_117 rfl (lv_at hl 1 rfl) ?_
  rcases xp_try h with ⟨a6, u7, hq, h⟩ | ⟨kx, ux, hq, h⟩
  rotate_left
  · obtain ⟨rfl, rfl⟩ := xp_q h
    exact xk_up (xr_V (As := [.int b2]) (rest := []) C hP hS (ct_Reader_readSize htr hok hq) kq_Reader_56 54 7 rfl rfl ⟨rfl, rfl, Nat.le_of_ble_eq_true rfl, Nat.le_of_ble_eq_true rfl⟩ ⟨Nat.le_of_ble_eq_true rfl, Nat.le_of_ble_eq_true rfl⟩ hl.1 rfl rfl (Nat.le_of_ble_eq_true rfl) dd_Reader_readModule_118) hS hne C.2.2.2.2.2.2.1
  refine xk_goesI (xr_V (As := [.int b2]) (rest := []) C hP hS (ct_Reader_readSize htr hok hq) kq_Reader_56 54 7 rfl rfl ⟨rfl, rfl, Nat.le_of_ble_eq_true rfl, Nat.le_of_ble_eq_true rfl⟩ ⟨Nat.le_of_ble_eq_true rfl, Nat.le_of_ble_eq_true rfl⟩ hl.1 rfl rfl (Nat.le_of_ble_eq_true rfl) dd_Reader_readModule_118) hS (fun H locs hP hS => ?_)
  clear hq
  refine lv_istore (lv' := [(6, .int a6), (0, .ref (ad 54)), (2, .int b2), (3, .int b3), (4, .int b4), (5, .int b5)]) hx hb dd_Reader_readModule_121 hl (by decide) rfl (fun ls hl => ?_)
  refine lv_aload_n hx hb dd_Reader_readModule_123 rfl (lv_at hl 1 rfl) ?_
  refine lv_aload_n hx hb dd_Reader_readModule_124 rfl (lv_at hl 1 rfl) ?_
  refine gf_h_Reader_54_next C hP dd_Reader_readModule_125 ?_
  refine lv_iload hx hb dd_Reader_readModule_128 (lv_at hl 0 rfl) ?_
  refine lv_iadd hx hb dd_Reader_readModule_130 ?_
  refine pf_h_Reader_54_end C hP hS dd_Reader_readModule_131 (fun H locs hP hS => ?_)
  obtain ⟨u8, eu8, h⟩ := xp_let h
  rw [← eu8] at hP
  refine lv_iload hx hb dd_Reader_readModule_134 (lv_at hl 5 rfl) ?_
  by_cases hc0 : b5 = (0 : Int32)
  · have h := xp_t hc0 h
    refine lv_tableIn (off := 60) (tgt := 196) hx hb dd_Reader_readModule_136 (by rw [hc0]; decide) (by rw [hc0]; decide) (by rw [hc0]; rfl) (by decide) ?_
    refine lv_aload_n hx hb dd_Reader_readModule_196 rfl (lv_at hl 1 rfl) ?_
    refine lv_aload_n hx hb dd_Reader_readModule_197 rfl (lv_at hl 1 rfl) ?_
    refine gf_h_Reader_54_end C hP dd_Reader_readModule_198 ?_
    refine pf_h_Reader_54_next C hP hS dd_Reader_readModule_201 (fun H locs hP hS => ?_)
    obtain ⟨u9, eu9, h⟩ := xp_let h
    rw [← eu9] at hP
    refine lv_goto (tgt := 281) hx hb dd_Reader_readModule_204 (by decide) ?_
    exact wj_Reader_readModule_281 htr C hne hk62 h hP hS (lv_sub hl [1, 2, 3, 4, 5] rfl)
  have h := xp_f hc0 h
  by_cases hc1 : b5 = (1 : Int32)
  · have h := xp_t hc1 h
    refine lv_tableIn (off := 71) (tgt := 207) hx hb dd_Reader_readModule_136 (by rw [hc1]; decide) (by rw [hc1]; decide) (by rw [hc1]; rfl) (by decide) ?_
    refine lv_aload_n hx hb dd_Reader_readModule_207 rfl (lv_at hl 1 rfl) ?_
    rcases xp_try h with ⟨rx, u13, hq, h⟩ | ⟨kx, ux, hq, h⟩
    rotate_left
    · obtain ⟨rfl, rfl⟩ := xp_q h
      exact xk_up (xr_V (As := []) (rest := []) C hP hS (ct_Reader_readTypes htr hok hq) kq_Reader_60 54 7 rfl rfl ⟨rfl, rfl, Nat.le_of_ble_eq_true rfl, Nat.le_of_ble_eq_true rfl⟩ ⟨Nat.le_of_ble_eq_true rfl, Nat.le_of_ble_eq_true rfl⟩ hl.1 rfl rfl (Nat.le_of_ble_eq_true rfl) dd_Reader_readModule_208) hS hne C.2.2.2.2.2.2.1
    refine xk_goesV (xr_V (As := []) (rest := []) C hP hS (ct_Reader_readTypes htr hok hq) kq_Reader_60 54 7 rfl rfl ⟨rfl, rfl, Nat.le_of_ble_eq_true rfl, Nat.le_of_ble_eq_true rfl⟩ ⟨Nat.le_of_ble_eq_true rfl, Nat.le_of_ble_eq_true rfl⟩ hl.1 rfl rfl (Nat.le_of_ble_eq_true rfl) dd_Reader_readModule_208) hS (fun H locs hP hS => ?_)
    clear hq
    refine lv_goto (tgt := 281) hx hb dd_Reader_readModule_211 (by decide) ?_
    exact wj_Reader_readModule_281 htr C hne hk62 h hP hS (lv_sub hl [1, 2, 3, 4, 5] rfl)
  have h := xp_f hc1 h
  by_cases hc2 : b5 = (2 : Int32)
  · have h := xp_t hc2 h
    refine lv_tableIn (off := 141) (tgt := 277) hx hb dd_Reader_readModule_136 (by rw [hc2]; decide) (by rw [hc2]; decide) (by rw [hc2]; rfl) (by decide) ?_
    exact wj_Reader_readModule_277 htr C hne hk62 h hP hS (lv_sub hl [1, 2, 3, 4, 5] rfl)
  have h := xp_f hc2 h
  by_cases hc3 : b5 = (3 : Int32)
  · have h := xp_t hc3 h
    refine lv_tableIn (off := 78) (tgt := 214) hx hb dd_Reader_readModule_136 (by rw [hc3]; decide) (by rw [hc3]; decide) (by rw [hc3]; rfl) (by decide) ?_
    refine lv_aload_n hx hb dd_Reader_readModule_214 rfl (lv_at hl 1 rfl) ?_
    rcases xp_try h with ⟨rx, u15, hq, h⟩ | ⟨kx, ux, hq, h⟩
    rotate_left
    · obtain ⟨rfl, rfl⟩ := xp_q h
      exact xk_up (xr_V (As := []) (rest := []) C hP hS (ct_Reader_readFunctions htr hok hq) kq_Reader_63 54 7 rfl rfl ⟨rfl, rfl, Nat.le_of_ble_eq_true rfl, Nat.le_of_ble_eq_true rfl⟩ ⟨Nat.le_of_ble_eq_true rfl, Nat.le_of_ble_eq_true rfl⟩ hl.1 rfl rfl (Nat.le_of_ble_eq_true rfl) dd_Reader_readModule_215) hS hne C.2.2.2.2.2.2.1
    refine xk_goesV (xr_V (As := []) (rest := []) C hP hS (ct_Reader_readFunctions htr hok hq) kq_Reader_63 54 7 rfl rfl ⟨rfl, rfl, Nat.le_of_ble_eq_true rfl, Nat.le_of_ble_eq_true rfl⟩ ⟨Nat.le_of_ble_eq_true rfl, Nat.le_of_ble_eq_true rfl⟩ hl.1 rfl rfl (Nat.le_of_ble_eq_true rfl) dd_Reader_readModule_215) hS (fun H locs hP hS => ?_)
    clear hq
    refine lv_goto (tgt := 281) hx hb dd_Reader_readModule_218 (by decide) ?_
    exact wj_Reader_readModule_281 htr C hne hk62 h hP hS (lv_sub hl [1, 2, 3, 4, 5] rfl)
  have h := xp_f hc3 h
  by_cases hc4 : b5 = (4 : Int32)
  · have h := xp_t hc4 h
    refine lv_tableIn (off := 85) (tgt := 221) hx hb dd_Reader_readModule_136 (by rw [hc4]; decide) (by rw [hc4]; decide) (by rw [hc4]; rfl) (by decide) ?_
    refine lv_aload_n hx hb dd_Reader_readModule_221 rfl (lv_at hl 1 rfl) ?_
    rcases xp_try h with ⟨rx, u16, hq, h⟩ | ⟨kx, ux, hq, h⟩
    rotate_left
    · obtain ⟨rfl, rfl⟩ := xp_q h
      exact xk_up (xr_V (As := []) (rest := []) C hP hS (ct_Reader_readTables htr hok hq) kq_Reader_66 54 7 rfl rfl ⟨rfl, rfl, Nat.le_of_ble_eq_true rfl, Nat.le_of_ble_eq_true rfl⟩ ⟨Nat.le_of_ble_eq_true rfl, Nat.le_of_ble_eq_true rfl⟩ hl.1 rfl rfl (Nat.le_of_ble_eq_true rfl) dd_Reader_readModule_222) hS hne C.2.2.2.2.2.2.1
    refine xk_goesV (xr_V (As := []) (rest := []) C hP hS (ct_Reader_readTables htr hok hq) kq_Reader_66 54 7 rfl rfl ⟨rfl, rfl, Nat.le_of_ble_eq_true rfl, Nat.le_of_ble_eq_true rfl⟩ ⟨Nat.le_of_ble_eq_true rfl, Nat.le_of_ble_eq_true rfl⟩ hl.1 rfl rfl (Nat.le_of_ble_eq_true rfl) dd_Reader_readModule_222) hS (fun H locs hP hS => ?_)
    clear hq
    refine lv_goto (tgt := 281) hx hb dd_Reader_readModule_225 (by decide) ?_
    exact wj_Reader_readModule_281 htr C hne hk62 h hP hS (lv_sub hl [1, 2, 3, 4, 5] rfl)
  have h := xp_f hc4 h
  by_cases hc5 : b5 = (5 : Int32)
  · have h := xp_t hc5 h
    refine lv_tableIn (off := 92) (tgt := 228) hx hb dd_Reader_readModule_136 (by rw [hc5]; decide) (by rw [hc5]; decide) (by rw [hc5]; rfl) (by decide) ?_
    refine lv_aload_n hx hb dd_Reader_readModule_228 rfl (lv_at hl 1 rfl) ?_
    rcases xp_try h with ⟨rx, u17, hq, h⟩ | ⟨kx, ux, hq, h⟩
    rotate_left
    · obtain ⟨rfl, rfl⟩ := xp_q h
      exact xk_up (xr_V (As := []) (rest := []) C hP hS (ct_Reader_readMemories htr hok hq) kq_Reader_69 54 7 rfl rfl ⟨rfl, rfl, Nat.le_of_ble_eq_true rfl, Nat.le_of_ble_eq_true rfl⟩ ⟨Nat.le_of_ble_eq_true rfl, Nat.le_of_ble_eq_true rfl⟩ hl.1 rfl rfl (Nat.le_of_ble_eq_true rfl) dd_Reader_readModule_229) hS hne C.2.2.2.2.2.2.1
    refine xk_goesV (xr_V (As := []) (rest := []) C hP hS (ct_Reader_readMemories htr hok hq) kq_Reader_69 54 7 rfl rfl ⟨rfl, rfl, Nat.le_of_ble_eq_true rfl, Nat.le_of_ble_eq_true rfl⟩ ⟨Nat.le_of_ble_eq_true rfl, Nat.le_of_ble_eq_true rfl⟩ hl.1 rfl rfl (Nat.le_of_ble_eq_true rfl) dd_Reader_readModule_229) hS (fun H locs hP hS => ?_)
    clear hq
    refine lv_goto (tgt := 281) hx hb dd_Reader_readModule_232 (by decide) ?_
    exact wj_Reader_readModule_281 htr C hne hk62 h hP hS (lv_sub hl [1, 2, 3, 4, 5] rfl)
  have h := xp_f hc5 h
  by_cases hc6 : b5 = (6 : Int32)
  · have h := xp_t hc6 h
    refine lv_tableIn (off := 99) (tgt := 235) hx hb dd_Reader_readModule_136 (by rw [hc6]; decide) (by rw [hc6]; decide) (by rw [hc6]; rfl) (by decide) ?_
    refine lv_aload_n hx hb dd_Reader_readModule_235 rfl (lv_at hl 1 rfl) ?_
    rcases xp_try h with ⟨rx, u18, hq, h⟩ | ⟨kx, ux, hq, h⟩
    rotate_left
    · obtain ⟨rfl, rfl⟩ := xp_q h
      exact xk_up (xr_V (As := []) (rest := []) C hP hS (ct_Reader_readGlobals htr hok hq) kq_Reader_72 54 7 rfl rfl ⟨rfl, rfl, Nat.le_of_ble_eq_true rfl, Nat.le_of_ble_eq_true rfl⟩ ⟨Nat.le_of_ble_eq_true rfl, Nat.le_of_ble_eq_true rfl⟩ hl.1 rfl rfl (Nat.le_of_ble_eq_true rfl) dd_Reader_readModule_236) hS hne C.2.2.2.2.2.2.1
    refine xk_goesV (xr_V (As := []) (rest := []) C hP hS (ct_Reader_readGlobals htr hok hq) kq_Reader_72 54 7 rfl rfl ⟨rfl, rfl, Nat.le_of_ble_eq_true rfl, Nat.le_of_ble_eq_true rfl⟩ ⟨Nat.le_of_ble_eq_true rfl, Nat.le_of_ble_eq_true rfl⟩ hl.1 rfl rfl (Nat.le_of_ble_eq_true rfl) dd_Reader_readModule_236) hS (fun H locs hP hS => ?_)
    clear hq
    refine lv_goto (tgt := 281) hx hb dd_Reader_readModule_239 (by decide) ?_
    exact wj_Reader_readModule_281 htr C hne hk62 h hP hS (lv_sub hl [1, 2, 3, 4, 5] rfl)
  have h := xp_f hc6 h
  by_cases hc7 : b5 = (7 : Int32)
  · have h := xp_t hc7 h
    refine lv_tableIn (off := 106) (tgt := 242) hx hb dd_Reader_readModule_136 (by rw [hc7]; decide) (by rw [hc7]; decide) (by rw [hc7]; rfl) (by decide) ?_
    refine lv_aload_n hx hb dd_Reader_readModule_242 rfl (lv_at hl 1 rfl) ?_
    rcases xp_try h with ⟨rx, u19, hq, h⟩ | ⟨kx, ux, hq, h⟩
    rotate_left
    · obtain ⟨rfl, rfl⟩ := xp_q h
      exact xk_up (xr_V (As := []) (rest := []) C hP hS (ct_Reader_readExports htr hok hq) kq_Reader_75 54 7 rfl rfl ⟨rfl, rfl, Nat.le_of_ble_eq_true rfl, Nat.le_of_ble_eq_true rfl⟩ ⟨Nat.le_of_ble_eq_true rfl, Nat.le_of_ble_eq_true rfl⟩ hl.1 rfl rfl (Nat.le_of_ble_eq_true rfl) dd_Reader_readModule_243) hS hne C.2.2.2.2.2.2.1
    refine xk_goesV (xr_V (As := []) (rest := []) C hP hS (ct_Reader_readExports htr hok hq) kq_Reader_75 54 7 rfl rfl ⟨rfl, rfl, Nat.le_of_ble_eq_true rfl, Nat.le_of_ble_eq_true rfl⟩ ⟨Nat.le_of_ble_eq_true rfl, Nat.le_of_ble_eq_true rfl⟩ hl.1 rfl rfl (Nat.le_of_ble_eq_true rfl) dd_Reader_readModule_243) hS (fun H locs hP hS => ?_)
    clear hq
    refine lv_goto (tgt := 281) hx hb dd_Reader_readModule_246 (by decide) ?_
    exact wj_Reader_readModule_281 htr C hne hk62 h hP hS (lv_sub hl [1, 2, 3, 4, 5] rfl)
  have h := xp_f hc7 h
  by_cases hc8 : b5 = (8 : Int32)
  · have h := xp_t hc8 h
    refine lv_tableIn (off := 113) (tgt := 249) hx hb dd_Reader_readModule_136 (by rw [hc8]; decide) (by rw [hc8]; decide) (by rw [hc8]; rfl) (by decide) ?_
    refine lv_aload_n hx hb dd_Reader_readModule_249 rfl (lv_at hl 1 rfl) ?_
    refine gf_h_Reader_54_module C hP dd_Reader_readModule_250 ?_
    refine lv_aload_n hx hb dd_Reader_readModule_253 rfl (lv_at hl 1 rfl) ?_
    rcases xp_try h with ⟨a20, u21, hq, h⟩ | ⟨kx, ux, hq, h⟩
    rotate_left
    · obtain ⟨rfl, rfl⟩ := xp_q h
      exact xk_up (xr_V (As := []) (rest := [.ref (ad 4)]) C hP hS (ct_Reader_readNumber htr hok hq) kq_Reader_78 54 7 rfl rfl ⟨rfl, rfl, Nat.le_of_ble_eq_true rfl, Nat.le_of_ble_eq_true rfl⟩ ⟨Nat.le_of_ble_eq_true rfl, Nat.le_of_ble_eq_true rfl⟩ hl.1 rfl rfl (Nat.le_of_ble_eq_true rfl) dd_Reader_readModule_254) hS hne C.2.2.2.2.2.2.1
    refine xk_goesI (xr_V (As := []) (rest := [.ref (ad 4)]) C hP hS (ct_Reader_readNumber htr hok hq) kq_Reader_78 54 7 rfl rfl ⟨rfl, rfl, Nat.le_of_ble_eq_true rfl, Nat.le_of_ble_eq_true rfl⟩ ⟨Nat.le_of_ble_eq_true rfl, Nat.le_of_ble_eq_true rfl⟩ hl.1 rfl rfl (Nat.le_of_ble_eq_true rfl) dd_Reader_readModule_254) hS (fun H locs hP hS => ?_)
    clear hq
    refine pf_h_Reader_4_starter C hP hS dd_Reader_readModule_257 (fun H locs hP hS => ?_)
    obtain ⟨u22, eu22, h⟩ := xp_let h
    rw [← eu22] at hP
    refine lv_goto (tgt := 281) hx hb dd_Reader_readModule_260 (by decide) ?_
    exact wj_Reader_readModule_281 htr C hne hk62 h hP hS (lv_sub hl [1, 2, 3, 4, 5] rfl)
  have h := xp_f hc8 h
  by_cases hc9 : b5 = (9 : Int32)
  · have h := xp_t hc9 h
    refine lv_tableIn (off := 127) (tgt := 263) hx hb dd_Reader_readModule_136 (by rw [hc9]; decide) (by rw [hc9]; decide) (by rw [hc9]; rfl) (by decide) ?_
    refine lv_aload_n hx hb dd_Reader_readModule_263 rfl (lv_at hl 1 rfl) ?_
    rcases xp_try h with ⟨rx, u23, hq, h⟩ | ⟨kx, ux, hq, h⟩
    rotate_left
    · obtain ⟨rfl, rfl⟩ := xp_q h
      exact xk_up (xr_V (As := []) (rest := []) C hP hS (ct_Reader_readElements htr hok hq) kq_Reader_84 54 7 rfl rfl ⟨rfl, rfl, Nat.le_of_ble_eq_true rfl, Nat.le_of_ble_eq_true rfl⟩ ⟨Nat.le_of_ble_eq_true rfl, Nat.le_of_ble_eq_true rfl⟩ hl.1 rfl rfl (Nat.le_of_ble_eq_true rfl) dd_Reader_readModule_264) hS hne C.2.2.2.2.2.2.1
    refine xk_goesV (xr_V (As := []) (rest := []) C hP hS (ct_Reader_readElements htr hok hq) kq_Reader_84 54 7 rfl rfl ⟨rfl, rfl, Nat.le_of_ble_eq_true rfl, Nat.le_of_ble_eq_true rfl⟩ ⟨Nat.le_of_ble_eq_true rfl, Nat.le_of_ble_eq_true rfl⟩ hl.1 rfl rfl (Nat.le_of_ble_eq_true rfl) dd_Reader_readModule_264) hS (fun H locs hP hS => ?_)
    clear hq
    refine lv_goto (tgt := 281) hx hb dd_Reader_readModule_267 (by decide) ?_
    exact wj_Reader_readModule_281 htr C hne hk62 h hP hS (lv_sub hl [1, 2, 3, 4, 5] rfl)
  have h := xp_f hc9 h
  by_cases hc10 : b5 = (10 : Int32)
  · have h := xp_t hc10 h
    refine lv_tableIn (off := 134) (tgt := 270) hx hb dd_Reader_readModule_136 (by rw [hc10]; decide) (by rw [hc10]; decide) (by rw [hc10]; rfl) (by decide) ?_
    refine lv_aload_n hx hb dd_Reader_readModule_270 rfl (lv_at hl 1 rfl) ?_
    rcases xp_try h with ⟨rx, u24, hq, h⟩ | ⟨kx, ux, hq, h⟩
    rotate_left
    · obtain ⟨rfl, rfl⟩ := xp_q h
      exact xk_up (xr_V (As := []) (rest := []) C hP hS (ct_Reader_readCode htr hok hq) kq_Reader_87 54 7 rfl rfl ⟨rfl, rfl, Nat.le_of_ble_eq_true rfl, Nat.le_of_ble_eq_true rfl⟩ ⟨Nat.le_of_ble_eq_true rfl, Nat.le_of_ble_eq_true rfl⟩ hl.1 rfl rfl (Nat.le_of_ble_eq_true rfl) dd_Reader_readModule_271) hS hne C.2.2.2.2.2.2.1
    refine xk_goesV (xr_V (As := []) (rest := []) C hP hS (ct_Reader_readCode htr hok hq) kq_Reader_87 54 7 rfl rfl ⟨rfl, rfl, Nat.le_of_ble_eq_true rfl, Nat.le_of_ble_eq_true rfl⟩ ⟨Nat.le_of_ble_eq_true rfl, Nat.le_of_ble_eq_true rfl⟩ hl.1 rfl rfl (Nat.le_of_ble_eq_true rfl) dd_Reader_readModule_271) hS (fun H locs hP hS => ?_)
    clear hq
    refine lv_goto (tgt := 281) hx hb dd_Reader_readModule_274 (by decide) ?_
    exact wj_Reader_readModule_281 htr C hne hk62 h hP hS (lv_sub hl [1, 2, 3, 4, 5] rfl)
  have h := xp_f hc10 h
  have hd0 := lv_neT hc0 (a := 0) (by decide)
  have hd1 := lv_neT hc1 (a := 1) (by decide)
  have hd2 := lv_neT hc2 (a := 2) (by decide)
  have hd3 := lv_neT hc3 (a := 3) (by decide)
  have hd4 := lv_neT hc4 (a := 4) (by decide)
  have hd5 := lv_neT hc5 (a := 5) (by decide)
  have hd6 := lv_neT hc6 (a := 6) (by decide)
  have hd7 := lv_neT hc7 (a := 7) (by decide)
  have hd8 := lv_neT hc8 (a := 8) (by decide)
  have hd9 := lv_neT hc9 (a := 9) (by decide)
  have hd10 := lv_neT hc10 (a := 10) (by decide)
  refine lv_tableOut (tgt := 277) hx hb dd_Reader_readModule_136 (by omega) (by decide) ?_
  exact wj_Reader_readModule_277 htr C hne hk62 h hP hS (lv_sub hl [1, 2, 3, 4, 5] rfl)
set_option maxHeartbeats 4000000 in
set_option maxRecDepth 100000 in
theorem wj_Reader_readModule_62 {p : Program} {l : Launch} {e : Env} {s : State} {m : MethodId} {args : Array Value} {below : List Frame} {meth : Method} {c : Code} {D : va_G} {ad : Nat → Nat} {ca : Nat → ClassId} {ads : List Nat} {fu : Nat} (htr : l.stackTraces = false) (C : xk_C D kx_cl (kx_ty ca) (kw_h ad ca) ads "ModuleHouse$Reader" prog_9_method_2_code 7 none p e s m args meth c) (hne : c.exceptionTable.isEmpty = true) {u' : xk_St} {r : (Unit ⊕ Nat)} : ∀ {n : Nat} {b2 : Int32} {b3 : Int32} {b4 : Int32} {u : xk_St} {H : Heap} {locs : List Loc} {ls : Array Slot} (h : jb_Reader_readModule_62 fu  n b2 b3 b4 u = some (r, u')) (hP : va_P D kx_cl (kw_h ad ca u) H) (hS : va_S (xk_A ads s.heap.size) s.heap H locs) (hl : lv_has ls 7 [(0, .ref (ad 54)), (2, .int b2), (3, .int b3), (4, .int b4)]), W p l e rm_Reader_readModule s m args below meth c H locs 0 0 (xk_MQ below (xk_Qc D kx_cl (kw_h ad ca) ads (xo_v r) u') args s (xk_A ads s.heap.size)) (F0 m 62 ls []) := by
  intro n
  have hx := C.1.1
  have hb := C.1.2.1
  have hok := C.2.2.1
  obtain ⟨t0, hZ0, hT0⟩ := C.2.2.2.1.2.2.2.2.2.1
  obtain ⟨t1, hZ1, hT1⟩ := C.2.2.2.1.2.2.2.2.2.2.1
  obtain ⟨t2, hZ2, hT2⟩ := C.2.2.2.1.2.2.2.2.2.2.2
  induction n with
  | zero =>
    intro _ _ _ u H locs ls h
    have h : none = some (r, u') := h
    cases h
  | succ n ih =>
    intro b2 b3 b4 u H locs ls h hP hS hl
    unfold jb_Reader_readModule_62 at h
    obtain ⟨k62, ek62, h⟩ := xp_let h
    have hk62 : ∀ (c0 : Int32) (c1 : Int32) (c2 : Int32) (u : xk_St) (H : Heap) (locs : List Loc) (ls : Array Slot), k62 c0 c1 c2 u = some (r, u') → va_P D kx_cl (kw_h ad ca u) H → va_S (xk_A ads s.heap.size) s.heap H locs → lv_has ls 7 [(0, .ref (ad 54)), (2, .int c0), (3, .int c1), (4, .int c2)] → W p l e rm_Reader_readModule s m args below meth c H locs 0 0 (xk_MQ below (xk_Qc D kx_cl (kw_h ad ca) ads (xo_v r) u') args s (xk_A ads s.heap.size)) (F0 m 62 ls []) := by
      intro c0 c1 c2 u H locs ls h hP hS hl
      subst ek62
      exact ih h hP hS hl
    clear ih ek62
    refine lv_iload hx hb dd_Reader_readModule_62 (lv_at hl 3 rfl) ?_
    refine lv_sipush (v := 8192) hx hb dd_Reader_readModule_64 (by decide) ?_
    refine lv_icmp_ge (tgt := 318) hx hb dd_Reader_readModule_67 (by decide) (fun hc => ?_) (fun hc => ?_)
    · have h := xp_t hc h
      obtain ⟨rfl, rfl⟩ := xp_r h
      exact xr_vret C hP hS dd_Reader_readModule_318
    · have h := xp_f hc h
      refine lv_aload_n hx hb dd_Reader_readModule_70 rfl (lv_at hl 0 rfl) ?_
      refine gf_h_Reader_54_next C hP dd_Reader_readModule_71 ?_
      refine lv_iload_n hx hb dd_Reader_readModule_74 rfl (lv_at hl 1 rfl) ?_
      refine lv_icmp_ge (tgt := 318) hx hb dd_Reader_readModule_75 (by decide) (fun hc => ?_) (fun hc => ?_)
      · have h := xp_t hc h
        obtain ⟨rfl, rfl⟩ := xp_r h
        exact xr_vret C hP hS dd_Reader_readModule_318
      · have h := xp_f hc h
        refine lv_aload_n hx hb dd_Reader_readModule_78 rfl (lv_at hl 0 rfl) ?_
        rcases xp_try h with ⟨a4, u5, hq, h⟩ | ⟨kx, ux, hq, h⟩
        rotate_left
        · obtain ⟨rfl, rfl⟩ := xp_q h
          exact xk_up (xr_V (As := []) (rest := []) C hP hS (ct_Reader_readByte htr hok hq) kq_Reader_49 54 7 rfl rfl ⟨rfl, rfl, Nat.le_of_ble_eq_true rfl, Nat.le_of_ble_eq_true rfl⟩ ⟨Nat.le_of_ble_eq_true rfl, Nat.le_of_ble_eq_true rfl⟩ hl.1 rfl rfl (Nat.le_of_ble_eq_true rfl) dd_Reader_readModule_79) hS hne C.2.2.2.2.2.2.1
        refine xk_goesI (xr_V (As := []) (rest := []) C hP hS (ct_Reader_readByte htr hok hq) kq_Reader_49 54 7 rfl rfl ⟨rfl, rfl, Nat.le_of_ble_eq_true rfl, Nat.le_of_ble_eq_true rfl⟩ ⟨Nat.le_of_ble_eq_true rfl, Nat.le_of_ble_eq_true rfl⟩ hl.1 rfl rfl (Nat.le_of_ble_eq_true rfl) dd_Reader_readModule_79) hS (fun H locs hP hS => ?_)
        clear hq
        refine lv_istore (lv' := [(5, .int a4), (0, .ref (ad 54)), (2, .int b2), (3, .int b3), (4, .int b4)]) hx hb dd_Reader_readModule_82 hl (by decide) rfl (fun ls hl => ?_)
        refine lv_iload hx hb dd_Reader_readModule_84 (lv_at hl 0 rfl) ?_
        refine lv_if_eq (tgt := 116) hx hb dd_Reader_readModule_86 (by decide) (fun hc => ?_) (fun hc => ?_)
        · have h := xp_t hc h
          exact wj_Reader_readModule_116 htr C hne hk62 h hP hS (lv_sub hl [1, 2, 3, 4, 0] rfl)
        · have h := xp_f hc h
          refine lv_iload hx hb dd_Reader_readModule_89 (lv_at hl 0 rfl) ?_
          refine lv_iload_n hx hb dd_Reader_readModule_91 rfl (lv_at hl 3 rfl) ?_
          refine lv_icmp_le (tgt := 108) hx hb dd_Reader_readModule_92 (by decide) (fun hc => ?_) (fun hc => ?_)
          · have h := xp_t hc h
            obtain ⟨rfl, rfl⟩ := xp_r h
            exact xr_throw C hP hS hne kz_Reader_0 hl.1 ⟨Nat.le_of_ble_eq_true rfl, Nat.le_of_ble_eq_true rfl, Nat.le_of_ble_eq_true rfl, Nat.le_of_ble_eq_true rfl⟩ dd_Reader_readModule_108 dd_Reader_readModule_111 dd_Reader_readModule_112 dd_Reader_readModule_115
          · have h := xp_f hc h
            refine lv_iload hx hb dd_Reader_readModule_95 (lv_at hl 0 rfl) ?_
            refine lv_iconst (v := 2) hx hb dd_Reader_readModule_97 (by decide) ?_
            refine lv_icmp_eq (tgt := 108) hx hb dd_Reader_readModule_98 (by decide) (fun hc => ?_) (fun hc => ?_)
            · have h := xp_t hc h
              obtain ⟨rfl, rfl⟩ := xp_r h
              exact xr_throw C hP hS hne kz_Reader_0 hl.1 ⟨Nat.le_of_ble_eq_true rfl, Nat.le_of_ble_eq_true rfl, Nat.le_of_ble_eq_true rfl, Nat.le_of_ble_eq_true rfl⟩ dd_Reader_readModule_108 dd_Reader_readModule_111 dd_Reader_readModule_112 dd_Reader_readModule_115
            · have h := xp_f hc h
              refine lv_iload hx hb dd_Reader_readModule_101 (lv_at hl 0 rfl) ?_
              refine lv_bipush (v := 11) hx hb dd_Reader_readModule_103 (by decide) ?_
              refine lv_icmp_le (tgt := 116) hx hb dd_Reader_readModule_105 (by decide) (fun hc => ?_) (fun hc => ?_)
              · have h := xp_t hc h
                exact wj_Reader_readModule_116 htr C hne hk62 h hP hS (lv_sub hl [1, 2, 3, 4, 0] rfl)
              · have h := xp_f hc h
                obtain ⟨rfl, rfl⟩ := xp_r h
                exact xr_throw C hP hS hne kz_Reader_0 hl.1 ⟨Nat.le_of_ble_eq_true rfl, Nat.le_of_ble_eq_true rfl, Nat.le_of_ble_eq_true rfl, Nat.le_of_ble_eq_true rfl⟩ dd_Reader_readModule_108 dd_Reader_readModule_111 dd_Reader_readModule_112 dd_Reader_readModule_115
set_option maxHeartbeats 4000000 in
set_option maxRecDepth 100000 in
theorem wj_Reader_readModule_23 {p : Program} {l : Launch} {e : Env} {s : State} {m : MethodId} {args : Array Value} {below : List Frame} {meth : Method} {c : Code} {D : va_G} {ad : Nat → Nat} {ca : Nat → ClassId} {ads : List Nat} {fu : Nat} (htr : l.stackTraces = false) (C : xk_C D kx_cl (kx_ty ca) (kw_h ad ca) ads "ModuleHouse$Reader" prog_9_method_2_code 7 none p e s m args meth c) (hne : c.exceptionTable.isEmpty = true) {u' : xk_St} {r : (Unit ⊕ Nat)} : ∀ {n : Nat} {b2 : Int32} {b3 : Int32} {u : xk_St} {H : Heap} {locs : List Loc} {ls : Array Slot} (h : jb_Reader_readModule_23 fu  n b2 b3 u = some (r, u')) (hP : va_P D kx_cl (kw_h ad ca u) H) (hS : va_S (xk_A ads s.heap.size) s.heap H locs) (hl : lv_has ls 7 [(0, .ref (ad 54)), (2, .int b2), (3, .int b3)]), W p l e rm_Reader_readModule s m args below meth c H locs 0 0 (xk_MQ below (xk_Qc D kx_cl (kw_h ad ca) ads (xo_v r) u') args s (xk_A ads s.heap.size)) (F0 m 23 ls []) := by
  intro n
  have hx := C.1.1
  have hb := C.1.2.1
  have hok := C.2.2.1
  obtain ⟨t0, hZ0, hT0⟩ := C.2.2.2.1.2.2.2.2.2.1
  obtain ⟨t1, hZ1, hT1⟩ := C.2.2.2.1.2.2.2.2.2.2.1
  obtain ⟨t2, hZ2, hT2⟩ := C.2.2.2.1.2.2.2.2.2.2.2
  induction n with
  | zero =>
    intro _ _ u H locs ls h
    have h : none = some (r, u') := h
    cases h
  | succ n ih =>
    intro b2 b3 u H locs ls h hP hS hl
    unfold jb_Reader_readModule_23 at h
    obtain ⟨k23, ek23, h⟩ := xp_let h
    have hk23 : ∀ (c0 : Int32) (c1 : Int32) (u : xk_St) (H : Heap) (locs : List Loc) (ls : Array Slot), k23 c0 c1 u = some (r, u') → va_P D kx_cl (kw_h ad ca u) H → va_S (xk_A ads s.heap.size) s.heap H locs → lv_has ls 7 [(0, .ref (ad 54)), (2, .int c0), (3, .int c1)] → W p l e rm_Reader_readModule s m args below meth c H locs 0 0 (xk_MQ below (xk_Qc D kx_cl (kw_h ad ca) ads (xo_v r) u') args s (xk_A ads s.heap.size)) (F0 m 23 ls []) := by
      intro c0 c1 u H locs ls h hP hS hl
      subst ek23
      exact ih h hP hS hl
    clear ih ek23
    refine lv_iload_n hx hb dd_Reader_readModule_23 rfl (lv_at hl 2 rfl) ?_
    refine va_gets hx hb hZ0 hS C.1.2.2.2.1 (C.1.2.2.2.2 _ (xk_c4 (w := Cond.fieldLink "ModuleHouse$Reader" 45 "ModuleHouse$Reader" "HEAD" "[I") 121 rfl rfl)) (fun _ h => h) dd_Reader_readModule_24 ?_
    refine va_tlen (v := 8) hx hb hT0 hS (by decide) dd_Reader_readModule_27 ?_
    refine lv_icmp_ge (tgt := 57) hx hb dd_Reader_readModule_28 (by decide) (fun hc => ?_) (fun hc => ?_)
    · have h := xp_t hc h
      refine lv_iconst (v := 0) hx hb dd_Reader_readModule_57 (by decide) ?_
      refine lv_istore_n (lv' := [(3, .int (0 : Int32)), (0, .ref (ad 54)), (2, .int b2)]) hx hb dd_Reader_readModule_58 rfl hl (by decide) rfl (fun ls hl => ?_)
      refine lv_iconst (v := 0) hx hb dd_Reader_readModule_59 (by decide) ?_
      refine lv_istore (lv' := [(4, .int (0 : Int32)), (3, .int (0 : Int32)), (0, .ref (ad 54)), (2, .int b2)]) hx hb dd_Reader_readModule_60 hl (by decide) rfl (fun ls hl => ?_)
      exact wj_Reader_readModule_62 htr C hne h hP hS (lv_sub hl [2, 3, 1, 0] rfl)
    · have h := xp_f hc h
      refine lv_aload_n hx hb dd_Reader_readModule_31 rfl (lv_at hl 0 rfl) ?_
      rcases xp_try h with ⟨a25, u26, hq, h⟩ | ⟨kx, ux, hq, h⟩
      rotate_left
      · obtain ⟨rfl, rfl⟩ := xp_q h
        exact xk_up (xr_V (As := []) (rest := []) C hP hS (ct_Reader_readByte htr hok hq) kq_Reader_49 54 7 rfl rfl ⟨rfl, rfl, Nat.le_of_ble_eq_true rfl, Nat.le_of_ble_eq_true rfl⟩ ⟨Nat.le_of_ble_eq_true rfl, Nat.le_of_ble_eq_true rfl⟩ hl.1 rfl rfl (Nat.le_of_ble_eq_true rfl) dd_Reader_readModule_32) hS hne C.2.2.2.2.2.2.1
      refine xk_goesI (xr_V (As := []) (rest := []) C hP hS (ct_Reader_readByte htr hok hq) kq_Reader_49 54 7 rfl rfl ⟨rfl, rfl, Nat.le_of_ble_eq_true rfl, Nat.le_of_ble_eq_true rfl⟩ ⟨Nat.le_of_ble_eq_true rfl, Nat.le_of_ble_eq_true rfl⟩ hl.1 rfl rfl (Nat.le_of_ble_eq_true rfl) dd_Reader_readModule_32) hS (fun H locs hP hS => ?_)
      clear hq
      refine va_gets hx hb hZ0 hS C.1.2.2.2.1 (C.1.2.2.2.2 _ (xk_c4 (w := Cond.fieldLink "ModuleHouse$Reader" 45 "ModuleHouse$Reader" "HEAD" "[I") 121 rfl rfl)) (fun _ h => h) dd_Reader_readModule_35 ?_
      refine lv_iload_n hx hb dd_Reader_readModule_38 rfl (lv_at hl 2 rfl) ?_
      obtain ⟨hi, h⟩ := xp_g h
      refine va_ti hx hb hT0 hS hi rfl dd_Reader_readModule_39 ?_
      refine lv_icmp_eq (tgt := 51) hx hb dd_Reader_readModule_40 (by decide) (fun hc => ?_) (fun hc => ?_)
      · have h := xp_t hc h
        obtain ⟨a27, ea27, h⟩ := xp_let h
        refine lv_iinc (v := a27) (lv' := [(3, .int a27), (0, .ref (ad 54)), (2, .int b2)]) hx hb dd_Reader_readModule_51 hl (k := 2) rfl (by rw [ea27]; first | rfl | decide) (by decide) rfl (fun ls hl => ?_)
        refine lv_goto (tgt := 23) hx hb dd_Reader_readModule_54 (by decide) ?_
        exact hk23 b2 a27 u26 _ _ _ h hP hS (lv_sub hl [1, 2, 0] rfl)
      · have h := xp_f hc h
        obtain ⟨rfl, rfl⟩ := xp_r h
        exact xr_throw C hP hS hne kz_Reader_0 hl.1 ⟨Nat.le_of_ble_eq_true rfl, Nat.le_of_ble_eq_true rfl, Nat.le_of_ble_eq_true rfl, Nat.le_of_ble_eq_true rfl⟩ dd_Reader_readModule_43 dd_Reader_readModule_46 dd_Reader_readModule_47 dd_Reader_readModule_50
set_option maxHeartbeats 4000000 in
set_option maxRecDepth 100000 in
theorem ct_Reader_readModule {l : Launch} {D : va_G} {ad : Nat → Nat} {ca : Nat → ClassId} {ads : List Nat} (htr : l.stackTraces = false) (hok : xk_ok (kw_h ad ca) ads) {fu : Nat} {x1 : Int32} {u u' : xk_St} {r : (Unit ⊕ Nat)} (h : fm_Reader_readModule fu x1 u = some (r, u')) :
    ∀ sz, xk_Met l ⟨"ModuleHouse$Reader", "readModule", "([BI)V"⟩ (Cond.code ⟨"ModuleHouse$Reader", "readModule", "([BI)V"⟩ prog_9_method_2_code 7 none :: xk_gd) rm_Reader_readModule (xk_Pc D kx_cl (kx_ty ca) (kw_h ad ca) ads xk_F sz [.ref (ad 54), .ref (ad 1), .int x1] u) (xk_Qc D kx_cl (kw_h ad ca) ads (xo_v r) u') (xk_A ads sz) := by
  unfold fm_Reader_readModule at h
  refine xk_con (by decide) htr hok (Nat.le_of_ble_eq_true rfl) (fun p e s m below meth c ls C hne hl hP => ?_)
  have hx := C.1.1
  have hb := C.1.2.1
  have hS : va_S (xk_A ads s.heap.size) s.heap s.heap [] := va_S.rf
  have hl : lv_has ls 7 [(0, .ref (ad 54)), (1, .ref (ad 1)), (2, .int x1)] := hl
  obtain ⟨t0, hZ0, hT0⟩ := C.2.2.2.1.2.2.2.2.2.1
  obtain ⟨t1, hZ1, hT1⟩ := C.2.2.2.1.2.2.2.2.2.2.1
  obtain ⟨t2, hZ2, hT2⟩ := C.2.2.2.1.2.2.2.2.2.2.2
  refine lv_aload_n hx hb dd_Reader_readModule_0 rfl (lv_at hl 1 rfl) ?_
  refine lv_iconst (v := 0) hx hb dd_Reader_readModule_1 (by decide) ?_
  refine lv_aload_n hx hb dd_Reader_readModule_2 rfl (lv_at hl 0 rfl) ?_
  refine gf_h_Reader_54_bytes C hP dd_Reader_readModule_3 ?_
  refine lv_iconst (v := 0) hx hb dd_Reader_readModule_6 (by decide) ?_
  refine lv_iload_n hx hb dd_Reader_readModule_7 rfl (lv_at hl 2 rfl) ?_
  obtain ⟨hi, h⟩ := xp_g h
  obtain ⟨hf, h⟩ := xp_if h
  refine va_copyi hx hb (C.1.2.2.1.trans hl.1.symm) C.1.2.2.2.1 (C.1.2.2.2.2 _ (xk_c4 (w := Cond.methodLink "ModuleHouse$Reader" 32 arraycopyName) 120 rfl rfl)) (C.1.2.2.2.2 _ (xk_c3 (w := Cond.native arraycopyName) 168 rfl rfl)) (C.1.2.2.2.2 _ (xk_c3 (w := Cond.static arraycopyName) 167 rfl rfl)) (C.1.2.2.2.2 _ (xk_c1 (w := Cond.initialized "java/lang/System") 25 rfl rfl)) C.2.1 hP (C.2.2.1.D (fun q h => Or.inl h) _) hS 1 5 0 0 rfl rfl rfl rfl rfl (fun z => hi (Or.inl z)) (fun z => hi (Or.inr (Or.inl z))) (fun z => hi (Or.inr (Or.inr (Or.inl z)))) (Nat.not_lt.mp fun z => hi (Or.inr (Or.inr (Or.inr (Or.inl z))))) (Nat.not_lt.mp fun z => hi (Or.inr (Or.inr (Or.inr (Or.inr z))))) hf (Nat.le_of_ble_eq_true rfl) (Nat.le_of_ble_eq_true rfl) dd_Reader_readModule_8 (fun H locs hP _ hS => ?_)
  obtain ⟨u1, eu1, h⟩ := xp_let h
  replace hP : va_P D kx_cl (kw_h ad ca u1) H := by rw [eu1]; exact hP
  refine lv_aload_n hx hb dd_Reader_readModule_11 rfl (lv_at hl 0 rfl) ?_
  refine lv_iconst (v := 0) hx hb dd_Reader_readModule_12 (by decide) ?_
  refine pf_h_Reader_54_next C hP hS dd_Reader_readModule_13 (fun H locs hP hS => ?_)
  obtain ⟨u2, eu2, h⟩ := xp_let h
  rw [← eu2] at hP
  refine lv_aload_n hx hb dd_Reader_readModule_16 rfl (lv_at hl 0 rfl) ?_
  refine lv_iload_n hx hb dd_Reader_readModule_17 rfl (lv_at hl 2 rfl) ?_
  refine pf_h_Reader_54_end C hP hS dd_Reader_readModule_18 (fun H locs hP hS => ?_)
  obtain ⟨u3, eu3, h⟩ := xp_let h
  rw [← eu3] at hP
  refine lv_iconst (v := 0) hx hb dd_Reader_readModule_21 (by decide) ?_
  refine lv_istore_n (lv' := [(3, .int (0 : Int32)), (0, .ref (ad 54)), (1, .ref (ad 1)), (2, .int x1)]) hx hb dd_Reader_readModule_22 rfl hl (by decide) rfl (fun ls hl => ?_)
  exact wj_Reader_readModule_23 htr C hne h hP hS (lv_sub hl [1, 3, 0] rfl)
abbrev rm_Checker_need : Room := { frames := 6, cells := 1, slots := 6, locals := 100 }
noncomputable def fm_Checker_need (x0 : Int32) (u : xk_St) : Option ((Unit ⊕ Nat) × xk_St) :=
  if x0 = (0 : Int32) then (some (.inr 0, u)) else (some (.inl (()), u))
set_option maxHeartbeats 4000000 in
set_option maxRecDepth 100000 in
theorem ct_Checker_need {l : Launch} {D : va_G} {ad : Nat → Nat} {ca : Nat → ClassId} {ads : List Nat} (htr : l.stackTraces = false) (hok : xk_ok (kw_h ad ca) ads) {x0 : Int32} {u u' : xk_St} {r : (Unit ⊕ Nat)} (h : fm_Checker_need x0 u = some (r, u')) :
    ∀ sz, xk_Met l ⟨"ModuleHouse$Checker", "need", "(Z)V"⟩ (Cond.code ⟨"ModuleHouse$Checker", "need", "(Z)V"⟩ prog_2_method_2_code 1 none :: xk_gd) rm_Checker_need (xk_Pc D kx_cl (kx_ty ca) (kw_h ad ca) ads xk_F sz [.int x0] u) (xk_Qc D kx_cl (kw_h ad ca) ads (xo_v r) u') (xk_A ads sz) := by
  unfold fm_Checker_need at h
  refine xk_con (by decide) htr hok (Nat.le_of_ble_eq_true rfl) (fun p e s m below meth c ls C hne hl hP => ?_)
  have hx := C.1.1
  have hb := C.1.2.1
  have hS : va_S (xk_A ads s.heap.size) s.heap s.heap [] := va_S.rf
  have hl : lv_has ls 1 [(0, .int x0)] := hl
  refine lv_iload_n hx hb dd_Checker_need_0 rfl (lv_at hl 0 rfl) ?_
  refine lv_if_ne (tgt := 12) hx hb dd_Checker_need_1 (by decide) (fun hc => ?_) (fun hc => ?_)
  · have h := xp_f hc h
    obtain ⟨rfl, rfl⟩ := xp_r h
    exact xr_vret C hP hS dd_Checker_need_12
  · have h := xp_t hc h
    obtain ⟨rfl, rfl⟩ := xp_r h
    exact xr_throw C hP hS hne kz_Checker_0 hl.1 ⟨Nat.le_of_ble_eq_true rfl, Nat.le_of_ble_eq_true rfl, Nat.le_of_ble_eq_true rfl, Nat.le_of_ble_eq_true rfl⟩ dd_Checker_need_4 dd_Checker_need_7 dd_Checker_need_8 dd_Checker_need_11
abbrev rm_Types_target : Room := { frames := 1, cells := 1, slots := 6, locals := 0 }
noncomputable def fm_Types_target (x0 : Int32) (u : xk_St) : Option (Int32 × xk_St) :=
  some (((x0 - (16 : Int32)) >>> ((1 : Int32) &&& 31)), u)
set_option maxHeartbeats 4000000 in
set_option maxRecDepth 100000 in
theorem ct_Types_target {l : Launch} {D : va_G} {ad : Nat → Nat} {ca : Nat → ClassId} {ads : List Nat} (htr : l.stackTraces = false) (hok : xk_ok (kw_h ad ca) ads) {x0 : Int32} {u u' : xk_St} {r : Int32} (h : fm_Types_target x0 u = some (r, u')) :
    ∀ sz, xk_Met l ⟨"ModuleHouse$Types", "target", "(I)I"⟩ (Cond.code ⟨"ModuleHouse$Types", "target", "(I)I"⟩ prog_11_method_5_code 1 (some .int) :: xk_gd) rm_Types_target (xk_Pc D kx_cl (kx_ty ca) (kw_h ad ca) ads xk_F sz [.int x0] u) (xk_Qc D kx_cl (kw_h ad ca) ads (xo_i (.inl r)) u') (xk_A ads sz) := by
  unfold fm_Types_target at h
  refine xk_con (by decide) htr hok (Nat.le_of_ble_eq_true rfl) (fun p e s m below meth c ls C hne hl hP => ?_)
  have hx := C.1.1
  have hb := C.1.2.1
  have hS : va_S (xk_A ads s.heap.size) s.heap s.heap [] := va_S.rf
  have hl : lv_has ls 1 [(0, .int x0)] := hl
  refine lv_iload_n hx hb dd_Types_target_0 rfl (lv_at hl 0 rfl) ?_
  refine lv_bipush (v := 16) hx hb dd_Types_target_1 (by decide) ?_
  refine lv_isub hx hb dd_Types_target_3 ?_
  refine lv_iconst (v := 1) hx hb dd_Types_target_4 (by decide) ?_
  refine lv_ishr hx hb dd_Types_target_5 ?_
  obtain ⟨rfl, rfl⟩ := xp_r h
  exact xr_iret C hP hS dd_Types_target_6
abbrev rm_Types_orNull : Room := { frames := 2, cells := 1, slots := 6, locals := 20 }
noncomputable def fm_Types_orNull (x0 : Int32) (u : xk_St) : Option (Int32 × xk_St) :=
  (xs_seq (fm_Types_isReference x0 u) fun a1 u2 => if a1 = (0 : Int32) then (some ((0 : Int32), u2)) else (if (x0 &&& (1 : Int32)) = (1 : Int32) then (some ((1 : Int32), u2)) else (some ((0 : Int32), u2))))
set_option maxHeartbeats 4000000 in
set_option maxRecDepth 100000 in
theorem ct_Types_orNull {l : Launch} {D : va_G} {ad : Nat → Nat} {ca : Nat → ClassId} {ads : List Nat} (htr : l.stackTraces = false) (hok : xk_ok (kw_h ad ca) ads) {x0 : Int32} {u u' : xk_St} {r : Int32} (h : fm_Types_orNull x0 u = some (r, u')) :
    ∀ sz, xk_Met l ⟨"ModuleHouse$Types", "orNull", "(I)Z"⟩ (Cond.code ⟨"ModuleHouse$Types", "orNull", "(I)Z"⟩ prog_11_method_4_code 1 (some .boolean) :: xk_gd) rm_Types_orNull (xk_Pc D kx_cl (kx_ty ca) (kw_h ad ca) ads xk_F sz [.int x0] u) (xk_Qc D kx_cl (kw_h ad ca) ads (xo_i (.inl r)) u') (xk_A ads sz) := by
  unfold fm_Types_orNull at h
  refine xk_con (by decide) htr hok (Nat.le_of_ble_eq_true rfl) (fun p e s m below meth c ls C hne hl hP => ?_)
  have hx := C.1.1
  have hb := C.1.2.1
  have hS : va_S (xk_A ads s.heap.size) s.heap s.heap [] := va_S.rf
  have hl : lv_has ls 1 [(0, .int x0)] := hl
  refine lv_iload_n hx hb dd_Types_orNull_0 rfl (lv_at hl 0 rfl) ?_
  obtain ⟨a1, u2, hq, h⟩ := xp_seq h
  refine xk_goesI (xr_S (As := [.int x0]) (rest := []) C hP hS (ct_Types_isReference htr hok hq) kq_Types_27 ⟨rfl, rfl, Nat.le_of_ble_eq_true rfl, Nat.le_of_ble_eq_true rfl⟩ ⟨Nat.le_of_ble_eq_true rfl, Nat.le_of_ble_eq_true rfl⟩ hl.1 rfl rfl (Nat.le_of_ble_eq_true rfl) dd_Types_orNull_1) hS (fun H locs hP hS => ?_)
  clear hq
  refine lv_if_eq (tgt := 18) hx hb dd_Types_orNull_4 (by decide) (fun hc => ?_) (fun hc => ?_)
  · have h := xp_t hc h
    refine lv_iconst (v := 0) hx hb dd_Types_orNull_18 (by decide) ?_
    obtain ⟨rfl, rfl⟩ := xp_r h
    exact xr_zret C hP hS (by decide) dd_Types_orNull_19
  · have h := xp_f hc h
    refine lv_iload_n hx hb dd_Types_orNull_7 rfl (lv_at hl 0 rfl) ?_
    refine lv_iconst (v := 1) hx hb dd_Types_orNull_8 (by decide) ?_
    refine lv_iand hx hb dd_Types_orNull_9 ?_
    refine lv_iconst (v := 1) hx hb dd_Types_orNull_10 (by decide) ?_
    refine lv_icmp_ne (tgt := 18) hx hb dd_Types_orNull_11 (by decide) (fun hc => ?_) (fun hc => ?_)
    · have h := xp_f hc h
      refine lv_iconst (v := 0) hx hb dd_Types_orNull_18 (by decide) ?_
      obtain ⟨rfl, rfl⟩ := xp_r h
      exact xr_zret C hP hS (by decide) dd_Types_orNull_19
    · have h := xp_t hc h
      refine lv_iconst (v := 1) hx hb dd_Types_orNull_14 (by decide) ?_
      refine lv_goto (tgt := 19) hx hb dd_Types_orNull_15 (by decide) ?_
      obtain ⟨rfl, rfl⟩ := xp_r h
      exact xr_zret C hP hS (by decide) dd_Types_orNull_19
abbrev rm_Types_alikeWithin : Room := { frames := 3, cells := 1, slots := 6, locals := 40 }
noncomputable def jb_Types_alikeWithin_30 (b1 : Int32) (b3 : Int32) (u : xk_St) : Option (Int32 × xk_St) :=
  if b1 = b3 then (some ((1 : Int32), u)) else (some ((0 : Int32), u))
noncomputable def jb_Types_alikeWithin_119 (u : xk_St) : Option (Int32 × xk_St) :=
  some ((1 : Int32), u)
noncomputable def jb_Types_alikeWithin_91 (b2 : Int32) (b5 : Int32) (b6 : Int32) (s0 : Int32) (s1 : Int32) (u : xk_St) : Option (Int32 × xk_St) :=
  if s1 = s0 then (if b5 = b2 then (jb_Types_alikeWithin_119 u) else ((if b5 < 0 ∨ 65 ≤ b5.toNatClampNeg then none else if b6 < 0 ∨ 65 ≤ b6.toNatClampNeg then none else if (u.2.2.1 5 b5.toNatClampNeg) = (u.2.2.1 5 b6.toNatClampNeg) then (jb_Types_alikeWithin_119 u) else (some ((0 : Int32), u))))) else (some ((0 : Int32), u))
noncomputable def jb_Types_alikeWithin_79 (b2 : Int32) (b4 : Int32) (b5 : Int32) (b6 : Int32) (s0 : Int32) (u : xk_St) : Option (Int32 × xk_St) :=
  if b6 = b4 then (jb_Types_alikeWithin_91 b2 b5 b6 (1 : Int32) s0 u) else (jb_Types_alikeWithin_91 b2 b5 b6 (0 : Int32) s0 u)
noncomputable def fm_Types_alikeWithin (x0 : Int32) (x1 : Int32) (x2 : Int32) (x3 : Int32) (u : xk_St) : Option (Int32 × xk_St) :=
  (xs_seq (fm_Types_isReference x0 u) fun a1 u2 => if a1 = (0 : Int32) then (jb_Types_alikeWithin_30 x0 x2 u2) else ((xs_seq (fm_Types_isReference x2 u2) fun a3 u4 => if a3 = (0 : Int32) then (jb_Types_alikeWithin_30 x0 x2 u4) else ((xs_seq (fm_Types_target x0 u4) fun a5 u6 => if a5 < (3 : Int32) then (jb_Types_alikeWithin_30 x0 x2 u6) else ((xs_seq (fm_Types_target x2 u6) fun a7 u8 => if (3 : Int32) ≤ a7 then ((xs_seq (fm_Types_target x0 u8) fun a9 u10 => xs_let (a9 - (3 : Int32)) fun a11 => xs_seq (fm_Types_target x2 u10) fun a12 u13 => xs_let (a12 - (3 : Int32)) fun a14 => xs_seq (fm_Types_orNull x0 u13) fun a15 u16 => xs_seq (fm_Types_orNull x2 u16) fun a17 u18 => if a15 = a17 then (if a11 = x1 then (jb_Types_alikeWithin_79 x1 x3 a11 a14 (1 : Int32) u18) else (jb_Types_alikeWithin_79 x1 x3 a11 a14 (0 : Int32) u18)) else (some ((0 : Int32), u18)))) else (jb_Types_alikeWithin_30 x0 x2 u8))))))))
set_option maxHeartbeats 4000000 in
set_option maxRecDepth 100000 in
theorem wj_Types_alikeWithin_30 {p : Program} {l : Launch} {e : Env} {s : State} {m : MethodId} {args : Array Value} {below : List Frame} {meth : Method} {c : Code} {D : va_G} {ad : Nat → Nat} {ca : Nat → ClassId} {ads : List Nat} (htr : l.stackTraces = false) (C : xk_C D kx_cl (kx_ty ca) (kw_h ad ca) ads "ModuleHouse$Types" prog_11_method_20_code 7 (some .boolean) p e s m args meth c) (hne : c.exceptionTable.isEmpty = true) {u' : xk_St} {r : Int32} {b1 : Int32} {b3 : Int32} {u : xk_St} {H : Heap} {locs : List Loc} {ls : Array Slot} (h : jb_Types_alikeWithin_30  b1 b3 u = some (r, u')) (hP : va_P D kx_cl (kw_h ad ca u) H) (hS : va_S (xk_A ads s.heap.size) s.heap H locs) (hl : lv_has ls 7 [(1, .int b1), (3, .int b3)]) : W p l e rm_Types_alikeWithin s m args below meth c H locs 0 0 (xk_MQ below (xk_Qc D kx_cl (kw_h ad ca) ads (xo_i (.inl r)) u') args s (xk_A ads s.heap.size)) (F0 m 30 ls []) := by
  have hx := C.1.1
  have hb := C.1.2.1
  have hok := C.2.2.1
  unfold jb_Types_alikeWithin_30 at h
  refine lv_iload_n hx hb dd_Types_alikeWithin_30 rfl (lv_at hl 0 rfl) ?_
  refine lv_iload_n hx hb dd_Types_alikeWithin_31 rfl (lv_at hl 1 rfl) ?_
  refine lv_icmp_ne (tgt := 39) hx hb dd_Types_alikeWithin_32 (by decide) (fun hc => ?_) (fun hc => ?_)
  · have h := xp_f hc h
    refine lv_iconst (v := 0) hx hb dd_Types_alikeWithin_39 (by decide) ?_
    obtain ⟨rfl, rfl⟩ := xp_r h
    exact xr_zret C hP hS (by decide) dd_Types_alikeWithin_40
  · have h := xp_t hc h
    refine lv_iconst (v := 1) hx hb dd_Types_alikeWithin_35 (by decide) ?_
    refine lv_goto (tgt := 40) hx hb dd_Types_alikeWithin_36 (by decide) ?_
    obtain ⟨rfl, rfl⟩ := xp_r h
    exact xr_zret C hP hS (by decide) dd_Types_alikeWithin_40
set_option maxHeartbeats 4000000 in
set_option maxRecDepth 100000 in
theorem wj_Types_alikeWithin_119 {p : Program} {l : Launch} {e : Env} {s : State} {m : MethodId} {args : Array Value} {below : List Frame} {meth : Method} {c : Code} {D : va_G} {ad : Nat → Nat} {ca : Nat → ClassId} {ads : List Nat} (htr : l.stackTraces = false) (C : xk_C D kx_cl (kx_ty ca) (kw_h ad ca) ads "ModuleHouse$Types" prog_11_method_20_code 7 (some .boolean) p e s m args meth c) (hne : c.exceptionTable.isEmpty = true) {u' : xk_St} {r : Int32} {u : xk_St} {H : Heap} {locs : List Loc} {ls : Array Slot} (h : jb_Types_alikeWithin_119   u = some (r, u')) (hP : va_P D kx_cl (kw_h ad ca u) H) (hS : va_S (xk_A ads s.heap.size) s.heap H locs) (hl : lv_has ls 7 []) : W p l e rm_Types_alikeWithin s m args below meth c H locs 0 0 (xk_MQ below (xk_Qc D kx_cl (kw_h ad ca) ads (xo_i (.inl r)) u') args s (xk_A ads s.heap.size)) (F0 m 119 ls []) := by
  have hx := C.1.1
  have hb := C.1.2.1
  have hok := C.2.2.1
  unfold jb_Types_alikeWithin_119 at h
  refine lv_iconst (v := 1) hx hb dd_Types_alikeWithin_119 (by decide) ?_
  refine lv_goto (tgt := 124) hx hb dd_Types_alikeWithin_120 (by decide) ?_
  obtain ⟨rfl, rfl⟩ := xp_r h
  exact xr_zret C hP hS (by decide) dd_Types_alikeWithin_124
set_option maxHeartbeats 4000000 in
set_option maxRecDepth 100000 in
theorem wj_Types_alikeWithin_91 {p : Program} {l : Launch} {e : Env} {s : State} {m : MethodId} {args : Array Value} {below : List Frame} {meth : Method} {c : Code} {D : va_G} {ad : Nat → Nat} {ca : Nat → ClassId} {ads : List Nat} (htr : l.stackTraces = false) (C : xk_C D kx_cl (kx_ty ca) (kw_h ad ca) ads "ModuleHouse$Types" prog_11_method_20_code 7 (some .boolean) p e s m args meth c) (hne : c.exceptionTable.isEmpty = true) {u' : xk_St} {r : Int32} {b2 : Int32} {b5 : Int32} {b6 : Int32} {s0 : Int32} {s1 : Int32} {u : xk_St} {H : Heap} {locs : List Loc} {ls : Array Slot} (h : jb_Types_alikeWithin_91  b2 b5 b6 s0 s1 u = some (r, u')) (hP : va_P D kx_cl (kw_h ad ca u) H) (hS : va_S (xk_A ads s.heap.size) s.heap H locs) (hl : lv_has ls 7 [(0, .ref (ad 6)), (2, .int b2), (5, .int b5), (6, .int b6)]) : W p l e rm_Types_alikeWithin s m args below meth c H locs 0 0 (xk_MQ below (xk_Qc D kx_cl (kw_h ad ca) ads (xo_i (.inl r)) u') args s (xk_A ads s.heap.size)) (F0 m 91 ls [.int s0, .int s1]) := by
  have hx := C.1.1
  have hb := C.1.2.1
  have hok := C.2.2.1
  unfold jb_Types_alikeWithin_91 at h
  refine lv_icmp_eq (tgt := 96) hx hb dd_Types_alikeWithin_91 (by decide) (fun hc => ?_) (fun hc => ?_)
  · have h := xp_t hc h
    refine lv_iload hx hb dd_Types_alikeWithin_96 (lv_at hl 2 rfl) ?_
    refine lv_iload_n hx hb dd_Types_alikeWithin_98 rfl (lv_at hl 1 rfl) ?_
    refine lv_icmp_eq (tgt := 119) hx hb dd_Types_alikeWithin_99 (by decide) (fun hc => ?_) (fun hc => ?_)
    · have h := xp_t hc h
      exact wj_Types_alikeWithin_119 htr C hne h hP hS (lv_sub hl [] rfl)
    · have h := xp_f hc h
      refine lv_aload_n hx hb dd_Types_alikeWithin_102 rfl (lv_at hl 0 rfl) ?_
      refine gf_h_Types_6_like C hP dd_Types_alikeWithin_103 ?_
      refine lv_iload hx hb dd_Types_alikeWithin_106 (lv_at hl 2 rfl) ?_
      obtain ⟨hi, h⟩ := xp_g h
      refine al_h_10 C hP hi dd_Types_alikeWithin_108 ?_
      refine lv_aload_n hx hb dd_Types_alikeWithin_109 rfl (lv_at hl 0 rfl) ?_
      refine gf_h_Types_6_like C hP dd_Types_alikeWithin_110 ?_
      refine lv_iload hx hb dd_Types_alikeWithin_113 (lv_at hl 3 rfl) ?_
      obtain ⟨hi, h⟩ := xp_g h
      refine al_h_10 C hP hi dd_Types_alikeWithin_115 ?_
      refine lv_icmp_ne (tgt := 123) hx hb dd_Types_alikeWithin_116 (by decide) (fun hc => ?_) (fun hc => ?_)
      · have h := xp_f hc h
        refine lv_iconst (v := 0) hx hb dd_Types_alikeWithin_123 (by decide) ?_
        obtain ⟨rfl, rfl⟩ := xp_r h
        exact xr_zret C hP hS (by decide) dd_Types_alikeWithin_124
      · have h := xp_t hc h
        exact wj_Types_alikeWithin_119 htr C hne h hP hS (lv_sub hl [] rfl)
  · have h := xp_f hc h
    refine lv_iconst (v := 0) hx hb dd_Types_alikeWithin_94 (by decide) ?_
    obtain ⟨rfl, rfl⟩ := xp_r h
    exact xr_zret C hP hS (by decide) dd_Types_alikeWithin_95
set_option maxHeartbeats 4000000 in
set_option maxRecDepth 100000 in
theorem wj_Types_alikeWithin_79 {p : Program} {l : Launch} {e : Env} {s : State} {m : MethodId} {args : Array Value} {below : List Frame} {meth : Method} {c : Code} {D : va_G} {ad : Nat → Nat} {ca : Nat → ClassId} {ads : List Nat} (htr : l.stackTraces = false) (C : xk_C D kx_cl (kx_ty ca) (kw_h ad ca) ads "ModuleHouse$Types" prog_11_method_20_code 7 (some .boolean) p e s m args meth c) (hne : c.exceptionTable.isEmpty = true) {u' : xk_St} {r : Int32} {b2 : Int32} {b4 : Int32} {b5 : Int32} {b6 : Int32} {s0 : Int32} {u : xk_St} {H : Heap} {locs : List Loc} {ls : Array Slot} (h : jb_Types_alikeWithin_79  b2 b4 b5 b6 s0 u = some (r, u')) (hP : va_P D kx_cl (kw_h ad ca u) H) (hS : va_S (xk_A ads s.heap.size) s.heap H locs) (hl : lv_has ls 7 [(0, .ref (ad 6)), (2, .int b2), (4, .int b4), (5, .int b5), (6, .int b6)]) : W p l e rm_Types_alikeWithin s m args below meth c H locs 0 0 (xk_MQ below (xk_Qc D kx_cl (kw_h ad ca) ads (xo_i (.inl r)) u') args s (xk_A ads s.heap.size)) (F0 m 79 ls [.int s0]) := by
  have hx := C.1.1
  have hb := C.1.2.1
  have hok := C.2.2.1
  unfold jb_Types_alikeWithin_79 at h
  refine lv_iload hx hb dd_Types_alikeWithin_79 (lv_at hl 4 rfl) ?_
  refine lv_iload hx hb dd_Types_alikeWithin_81 (lv_at hl 2 rfl) ?_
  refine lv_icmp_ne (tgt := 90) hx hb dd_Types_alikeWithin_83 (by decide) (fun hc => ?_) (fun hc => ?_)
  · have h := xp_f hc h
    refine lv_iconst (v := 0) hx hb dd_Types_alikeWithin_90 (by decide) ?_
    exact wj_Types_alikeWithin_91 htr C hne h hP hS (lv_sub hl [0, 1, 3, 4] rfl)
  · have h := xp_t hc h
    refine lv_iconst (v := 1) hx hb dd_Types_alikeWithin_86 (by decide) ?_
    refine lv_goto (tgt := 91) hx hb dd_Types_alikeWithin_87 (by decide) ?_
    exact wj_Types_alikeWithin_91 htr C hne h hP hS (lv_sub hl [0, 1, 3, 4] rfl)
set_option maxHeartbeats 4000000 in
set_option maxRecDepth 100000 in
theorem ct_Types_alikeWithin {l : Launch} {D : va_G} {ad : Nat → Nat} {ca : Nat → ClassId} {ads : List Nat} (htr : l.stackTraces = false) (hok : xk_ok (kw_h ad ca) ads) {x0 : Int32} {x1 : Int32} {x2 : Int32} {x3 : Int32} {u u' : xk_St} {r : Int32} (h : fm_Types_alikeWithin x0 x1 x2 x3 u = some (r, u')) :
    ∀ sz, xk_Met l ⟨"ModuleHouse$Types", "alikeWithin", "(IIII)Z"⟩ (Cond.code ⟨"ModuleHouse$Types", "alikeWithin", "(IIII)Z"⟩ prog_11_method_20_code 7 (some .boolean) :: xk_gd) rm_Types_alikeWithin (xk_Pc D kx_cl (kx_ty ca) (kw_h ad ca) ads xk_F sz [.ref (ad 6), .int x0, .int x1, .int x2, .int x3] u) (xk_Qc D kx_cl (kw_h ad ca) ads (xo_i (.inl r)) u') (xk_A ads sz) := by
  unfold fm_Types_alikeWithin at h
  refine xk_con (by decide) htr hok (Nat.le_of_ble_eq_true rfl) (fun p e s m below meth c ls C hne hl hP => ?_)
  have hx := C.1.1
  have hb := C.1.2.1
  have hS : va_S (xk_A ads s.heap.size) s.heap s.heap [] := va_S.rf
  have hl : lv_has ls 7 [(0, .ref (ad 6)), (1, .int x0), (2, .int x1), (3, .int x2), (4, .int x3)] := hl
  refine lv_iload_n hx hb dd_Types_alikeWithin_0 rfl (lv_at hl 1 rfl) ?_
  obtain ⟨a1, u2, hq, h⟩ := xp_seq h
  refine xk_goesI (xr_S (As := [.int x0]) (rest := []) C hP hS (ct_Types_isReference htr hok hq) kq_Types_27 ⟨rfl, rfl, Nat.le_of_ble_eq_true rfl, Nat.le_of_ble_eq_true rfl⟩ ⟨Nat.le_of_ble_eq_true rfl, Nat.le_of_ble_eq_true rfl⟩ hl.1 rfl rfl (Nat.le_of_ble_eq_true rfl) dd_Types_alikeWithin_1) hS (fun H locs hP hS => ?_)
  clear hq
  refine lv_if_eq (tgt := 30) hx hb dd_Types_alikeWithin_4 (by decide) (fun hc => ?_) (fun hc => ?_)
  · have h := xp_t hc h
    exact wj_Types_alikeWithin_30 htr C hne h hP hS (lv_sub hl [1, 3] rfl)
  · have h := xp_f hc h
    refine lv_iload_n hx hb dd_Types_alikeWithin_7 rfl (lv_at hl 3 rfl) ?_
    obtain ⟨a3, u4, hq, h⟩ := xp_seq h
    refine xk_goesI (xr_S (As := [.int x2]) (rest := []) C hP hS (ct_Types_isReference htr hok hq) kq_Types_27 ⟨rfl, rfl, Nat.le_of_ble_eq_true rfl, Nat.le_of_ble_eq_true rfl⟩ ⟨Nat.le_of_ble_eq_true rfl, Nat.le_of_ble_eq_true rfl⟩ hl.1 rfl rfl (Nat.le_of_ble_eq_true rfl) dd_Types_alikeWithin_8) hS (fun H locs hP hS => ?_)
    clear hq
    refine lv_if_eq (tgt := 30) hx hb dd_Types_alikeWithin_11 (by decide) (fun hc => ?_) (fun hc => ?_)
    · have h := xp_t hc h
      exact wj_Types_alikeWithin_30 htr C hne h hP hS (lv_sub hl [1, 3] rfl)
    · have h := xp_f hc h
      refine lv_iload_n hx hb dd_Types_alikeWithin_14 rfl (lv_at hl 1 rfl) ?_
      obtain ⟨a5, u6, hq, h⟩ := xp_seq h
      refine xk_goesI (xr_S (As := [.int x0]) (rest := []) C hP hS (ct_Types_target htr hok hq) kq_Types_50 ⟨rfl, rfl, Nat.le_of_ble_eq_true rfl, Nat.le_of_ble_eq_true rfl⟩ ⟨Nat.le_of_ble_eq_true rfl, Nat.le_of_ble_eq_true rfl⟩ hl.1 rfl rfl (Nat.le_of_ble_eq_true rfl) dd_Types_alikeWithin_15) hS (fun H locs hP hS => ?_)
      clear hq
      refine lv_iconst (v := 3) hx hb dd_Types_alikeWithin_18 (by decide) ?_
      refine lv_icmp_lt (tgt := 30) hx hb dd_Types_alikeWithin_19 (by decide) (fun hc => ?_) (fun hc => ?_)
      · have h := xp_t hc h
        exact wj_Types_alikeWithin_30 htr C hne h hP hS (lv_sub hl [1, 3] rfl)
      · have h := xp_f hc h
        refine lv_iload_n hx hb dd_Types_alikeWithin_22 rfl (lv_at hl 3 rfl) ?_
        obtain ⟨a7, u8, hq, h⟩ := xp_seq h
        refine xk_goesI (xr_S (As := [.int x2]) (rest := []) C hP hS (ct_Types_target htr hok hq) kq_Types_50 ⟨rfl, rfl, Nat.le_of_ble_eq_true rfl, Nat.le_of_ble_eq_true rfl⟩ ⟨Nat.le_of_ble_eq_true rfl, Nat.le_of_ble_eq_true rfl⟩ hl.1 rfl rfl (Nat.le_of_ble_eq_true rfl) dd_Types_alikeWithin_23) hS (fun H locs hP hS => ?_)
        clear hq
        refine lv_iconst (v := 3) hx hb dd_Types_alikeWithin_26 (by decide) ?_
        refine lv_icmp_ge (tgt := 41) hx hb dd_Types_alikeWithin_27 (by decide) (fun hc => ?_) (fun hc => ?_)
        · have h := xp_t hc h
          refine lv_iload_n hx hb dd_Types_alikeWithin_41 rfl (lv_at hl 1 rfl) ?_
          obtain ⟨a9, u10, hq, h⟩ := xp_seq h
          refine xk_goesI (xr_S (As := [.int x0]) (rest := []) C hP hS (ct_Types_target htr hok hq) kq_Types_50 ⟨rfl, rfl, Nat.le_of_ble_eq_true rfl, Nat.le_of_ble_eq_true rfl⟩ ⟨Nat.le_of_ble_eq_true rfl, Nat.le_of_ble_eq_true rfl⟩ hl.1 rfl rfl (Nat.le_of_ble_eq_true rfl) dd_Types_alikeWithin_42) hS (fun H locs hP hS => ?_)
          clear hq
          refine lv_iconst (v := 3) hx hb dd_Types_alikeWithin_45 (by decide) ?_
          refine lv_isub hx hb dd_Types_alikeWithin_46 ?_
          obtain ⟨a11, ea11, h⟩ := xp_let h
          refine xr_nami ea11 ?_
          refine lv_istore (lv' := [(5, .int a11), (0, .ref (ad 6)), (1, .int x0), (2, .int x1), (3, .int x2), (4, .int x3)]) hx hb dd_Types_alikeWithin_47 hl (by decide) rfl (fun ls hl => ?_)
          refine lv_iload_n hx hb dd_Types_alikeWithin_49 rfl (lv_at hl 4 rfl) ?_
          obtain ⟨a12, u13, hq, h⟩ := xp_seq h
          refine xk_goesI (xr_S (As := [.int x2]) (rest := []) C hP hS (ct_Types_target htr hok hq) kq_Types_50 ⟨rfl, rfl, Nat.le_of_ble_eq_true rfl, Nat.le_of_ble_eq_true rfl⟩ ⟨Nat.le_of_ble_eq_true rfl, Nat.le_of_ble_eq_true rfl⟩ hl.1 rfl rfl (Nat.le_of_ble_eq_true rfl) dd_Types_alikeWithin_50) hS (fun H locs hP hS => ?_)
          clear hq
          refine lv_iconst (v := 3) hx hb dd_Types_alikeWithin_53 (by decide) ?_
          refine lv_isub hx hb dd_Types_alikeWithin_54 ?_
          obtain ⟨a14, ea14, h⟩ := xp_let h
          refine xr_nami ea14 ?_
          refine lv_istore (lv' := [(6, .int a14), (5, .int a11), (0, .ref (ad 6)), (1, .int x0), (2, .int x1), (3, .int x2), (4, .int x3)]) hx hb dd_Types_alikeWithin_55 hl (by decide) rfl (fun ls hl => ?_)
          refine lv_iload_n hx hb dd_Types_alikeWithin_57 rfl (lv_at hl 3 rfl) ?_
          obtain ⟨a15, u16, hq, h⟩ := xp_seq h
          refine xk_goesI (xr_S (As := [.int x0]) (rest := []) C hP hS (ct_Types_orNull htr hok hq) kq_Types_31 ⟨rfl, rfl, Nat.le_of_ble_eq_true rfl, Nat.le_of_ble_eq_true rfl⟩ ⟨Nat.le_of_ble_eq_true rfl, Nat.le_of_ble_eq_true rfl⟩ hl.1 rfl rfl (Nat.le_of_ble_eq_true rfl) dd_Types_alikeWithin_58) hS (fun H locs hP hS => ?_)
          clear hq
          refine lv_iload_n hx hb dd_Types_alikeWithin_61 rfl (lv_at hl 5 rfl) ?_
          obtain ⟨a17, u18, hq, h⟩ := xp_seq h
          refine xk_goesI (xr_S (As := [.int x2]) (rest := [.int a15]) C hP hS (ct_Types_orNull htr hok hq) kq_Types_31 ⟨rfl, rfl, Nat.le_of_ble_eq_true rfl, Nat.le_of_ble_eq_true rfl⟩ ⟨Nat.le_of_ble_eq_true rfl, Nat.le_of_ble_eq_true rfl⟩ hl.1 rfl rfl (Nat.le_of_ble_eq_true rfl) dd_Types_alikeWithin_62) hS (fun H locs hP hS => ?_)
          clear hq
          refine lv_icmp_ne (tgt := 94) hx hb dd_Types_alikeWithin_65 (by decide) (fun hc => ?_) (fun hc => ?_)
          · have h := xp_f hc h
            refine lv_iconst (v := 0) hx hb dd_Types_alikeWithin_94 (by decide) ?_
            obtain ⟨rfl, rfl⟩ := xp_r h
            exact xr_zret C hP hS (by decide) dd_Types_alikeWithin_95
          · have h := xp_t hc h
            refine lv_iload hx hb dd_Types_alikeWithin_68 (lv_at hl 1 rfl) ?_
            refine lv_iload_n hx hb dd_Types_alikeWithin_70 rfl (lv_at hl 4 rfl) ?_
            refine lv_icmp_ne (tgt := 78) hx hb dd_Types_alikeWithin_71 (by decide) (fun hc => ?_) (fun hc => ?_)
            · have h := xp_f hc h
              refine lv_iconst (v := 0) hx hb dd_Types_alikeWithin_78 (by decide) ?_
              exact wj_Types_alikeWithin_79 htr C hne h hP hS (lv_sub hl [2, 4, 6, 1, 0] rfl)
            · have h := xp_t hc h
              refine lv_iconst (v := 1) hx hb dd_Types_alikeWithin_74 (by decide) ?_
              refine lv_goto (tgt := 79) hx hb dd_Types_alikeWithin_75 (by decide) ?_
              exact wj_Types_alikeWithin_79 htr C hne h hP hS (lv_sub hl [2, 4, 6, 1, 0] rfl)
        · have h := xp_f hc h
          exact wj_Types_alikeWithin_30 htr C hne h hP hS (lv_sub hl [1, 3] rfl)
