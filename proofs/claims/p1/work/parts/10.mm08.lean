abbrev rm_Model_isSame : Room := { frames := 2, cells := 1, slots := 6, locals := 20 }
noncomputable def jb_Model_isSame_14 (b1 : Int32) (b2 : Int32) (u : xk_St) : Option (Int32 × xk_St) :=
  if b1 = b2 then (some ((1 : Int32), u)) else (some ((0 : Int32), u))
noncomputable def jb_Model_isSame_82 (u : xk_St) : Option (Int32 × xk_St) :=
  some ((1 : Int32), u)
noncomputable def fm_Model_isSame (x0 : Int32) (x1 : Int32) (u : xk_St) : Option (Int32 × xk_St) :=
  (xs_seq (fm_Model_isReference x0 u) fun a1 u2 => if a1 = (0 : Int32) then (jb_Model_isSame_14 x0 x1 u2) else ((xs_seq (fm_Model_isReference x1 u2) fun a3 u4 => if a3 = (0 : Int32) then (jb_Model_isSame_14 x0 x1 u4) else ((xs_seq (fm_Model_targetOf x0 u4) fun a5 u6 => xs_seq (fm_Model_targetOf x1 u6) fun a7 u8 => if (x0 &&& (1 : Int32)) = (x1 &&& (1 : Int32)) then (if a5 = a7 then (jb_Model_isSame_82 u8) else (if a5 < (2 : Int32) then (some ((0 : Int32), u8)) else (if a7 < (2 : Int32) then (some ((0 : Int32), u8)) else ((if (a5 - (2 : Int32)) < 0 ∨ 64 ≤ (a5 - (2 : Int32)).toNatClampNeg then none else if (a7 - (2 : Int32)) < 0 ∨ 64 ≤ (a7 - (2 : Int32)).toNatClampNeg then none else if (u8.2.2.1 8 (a5 - (2 : Int32)).toNatClampNeg) = (u8.2.2.1 8 (a7 - (2 : Int32)).toNatClampNeg) then (jb_Model_isSame_82 u8) else (some ((0 : Int32), u8))))))) else (some ((0 : Int32), u8)))))))
set_option maxHeartbeats 4000000 in
set_option maxRecDepth 100000 in
theorem wj_Model_isSame_14 {p : Program} {l : Launch} {e : Env} {s : State} {m : MethodId} {args : Array Value} {below : List Frame} {meth : Method} {c : Code} {D : va_G} {ad : Nat → Nat} {ca : Nat → ClassId} {ads : List Nat} (htr : l.stackTraces = false) (C : xk_C D kx_cl (kx_ty ca) (kw_m ad ca) ads "ModuleHouseModel" prog_14_method_41_code 5 (some .boolean) p e s m args meth c) (hne : c.exceptionTable.isEmpty = true) {u' : xk_St} {r : Int32} {b1 : Int32} {b2 : Int32} {u : xk_St} {H : Heap} {locs : List Loc} {ls : Array Slot} (h : jb_Model_isSame_14  b1 b2 u = some (r, u')) (hP : va_P D kx_cl (kw_m ad ca u) H) (hS : va_S (xk_A ads s.heap.size) s.heap H locs) (hl : lv_has ls 5 [(1, .int b1), (2, .int b2)]) : W p l e rm_Model_isSame s m args below meth c H locs 0 0 (xk_MQ below (xk_Qc D kx_cl (kw_m ad ca) ads (xo_i (.inl r)) u') args s (xk_A ads s.heap.size)) (F0 m 14 ls []) := by
  have hx := C.1.1
  have hb := C.1.2.1
  have hok := C.2.2.1
  unfold jb_Model_isSame_14 at h
  refine lv_iload_n hx hb dd_Model_isSame_14 rfl (lv_at hl 0 rfl) ?_
  refine lv_iload_n hx hb dd_Model_isSame_15 rfl (lv_at hl 1 rfl) ?_
  refine lv_icmp_ne (tgt := 23) hx hb dd_Model_isSame_16 (by decide) (fun hc => ?_) (fun hc => ?_)
  · have h := xp_f hc h
    refine lv_iconst (v := 0) hx hb dd_Model_isSame_23 (by decide) ?_
    obtain ⟨rfl, rfl⟩ := xp_r h
    exact xr_zret C hP hS (by decide) dd_Model_isSame_24
  · have h := xp_t hc h
    refine lv_iconst (v := 1) hx hb dd_Model_isSame_19 (by decide) ?_
    refine lv_goto (tgt := 24) hx hb dd_Model_isSame_20 (by decide) ?_
    obtain ⟨rfl, rfl⟩ := xp_r h
    exact xr_zret C hP hS (by decide) dd_Model_isSame_24
set_option maxHeartbeats 4000000 in
set_option maxRecDepth 100000 in
theorem wj_Model_isSame_82 {p : Program} {l : Launch} {e : Env} {s : State} {m : MethodId} {args : Array Value} {below : List Frame} {meth : Method} {c : Code} {D : va_G} {ad : Nat → Nat} {ca : Nat → ClassId} {ads : List Nat} (htr : l.stackTraces = false) (C : xk_C D kx_cl (kx_ty ca) (kw_m ad ca) ads "ModuleHouseModel" prog_14_method_41_code 5 (some .boolean) p e s m args meth c) (hne : c.exceptionTable.isEmpty = true) {u' : xk_St} {r : Int32} {u : xk_St} {H : Heap} {locs : List Loc} {ls : Array Slot} (h : jb_Model_isSame_82   u = some (r, u')) (hP : va_P D kx_cl (kw_m ad ca u) H) (hS : va_S (xk_A ads s.heap.size) s.heap H locs) (hl : lv_has ls 5 []) : W p l e rm_Model_isSame s m args below meth c H locs 0 0 (xk_MQ below (xk_Qc D kx_cl (kw_m ad ca) ads (xo_i (.inl r)) u') args s (xk_A ads s.heap.size)) (F0 m 82 ls []) := by
  have hx := C.1.1
  have hb := C.1.2.1
  have hok := C.2.2.1
  unfold jb_Model_isSame_82 at h
  refine lv_iconst (v := 1) hx hb dd_Model_isSame_82 (by decide) ?_
  refine lv_goto (tgt := 87) hx hb dd_Model_isSame_83 (by decide) ?_
  obtain ⟨rfl, rfl⟩ := xp_r h
  exact xr_zret C hP hS (by decide) dd_Model_isSame_87
set_option maxHeartbeats 4000000 in
set_option maxRecDepth 100000 in
theorem ct_Model_isSame {l : Launch} {D : va_G} {ad : Nat → Nat} {ca : Nat → ClassId} {ads : List Nat} (htr : l.stackTraces = false) (hok : xk_ok (kw_m ad ca) ads) {x0 : Int32} {x1 : Int32} {u u' : xk_St} {r : Int32} (h : fm_Model_isSame x0 x1 u = some (r, u')) :
    ∀ sz, xk_Met l ⟨"ModuleHouseModel", "isSame", "(II)Z"⟩ (Cond.code ⟨"ModuleHouseModel", "isSame", "(II)Z"⟩ prog_14_method_41_code 5 (some .boolean) :: xk_gd) rm_Model_isSame (xk_Pc D kx_cl (kx_ty ca) (kw_m ad ca) ads xk_F sz [.ref (ad 0), .int x0, .int x1] u) (xk_Qc D kx_cl (kw_m ad ca) ads (xo_i (.inl r)) u') (xk_A ads sz) := by
  unfold fm_Model_isSame at h
  refine xk_con (by decide) htr hok (Nat.le_of_ble_eq_true rfl) (fun p e s m below meth c ls C hne hl hP => ?_)
  have hx := C.1.1
  have hb := C.1.2.1
  have hS : va_S (xk_A ads s.heap.size) s.heap s.heap [] := va_S.rf
  have hl : lv_has ls 5 [(0, .ref (ad 0)), (1, .int x0), (2, .int x1)] := hl
  refine lv_iload_n hx hb dd_Model_isSame_0 rfl (lv_at hl 1 rfl) ?_
  obtain ⟨a1, u2, hq, h⟩ := xp_seq h
  refine xk_goesI (xr_S (As := [.int x0]) (rest := []) C hP hS (ct_Model_isReference htr hok hq) kq_Model_384 ⟨rfl, rfl, Nat.le_of_ble_eq_true rfl, Nat.le_of_ble_eq_true rfl⟩ ⟨Nat.le_of_ble_eq_true rfl, Nat.le_of_ble_eq_true rfl⟩ hl.1 rfl rfl (Nat.le_of_ble_eq_true rfl) dd_Model_isSame_1) hS (fun H locs hP hS => ?_)
  clear hq
  refine lv_if_eq (tgt := 14) hx hb dd_Model_isSame_4 (by decide) (fun hc => ?_) (fun hc => ?_)
  · have h := xp_t hc h
    exact wj_Model_isSame_14 htr C hne h hP hS (lv_sub hl [1, 2] rfl)
  · have h := xp_f hc h
    refine lv_iload_n hx hb dd_Model_isSame_7 rfl (lv_at hl 2 rfl) ?_
    obtain ⟨a3, u4, hq, h⟩ := xp_seq h
    refine xk_goesI (xr_S (As := [.int x1]) (rest := []) C hP hS (ct_Model_isReference htr hok hq) kq_Model_384 ⟨rfl, rfl, Nat.le_of_ble_eq_true rfl, Nat.le_of_ble_eq_true rfl⟩ ⟨Nat.le_of_ble_eq_true rfl, Nat.le_of_ble_eq_true rfl⟩ hl.1 rfl rfl (Nat.le_of_ble_eq_true rfl) dd_Model_isSame_8) hS (fun H locs hP hS => ?_)
    clear hq
    refine lv_if_ne (tgt := 25) hx hb dd_Model_isSame_11 (by decide) (fun hc => ?_) (fun hc => ?_)
    · have h := xp_f hc h
      refine lv_iload_n hx hb dd_Model_isSame_25 rfl (lv_at hl 1 rfl) ?_
      obtain ⟨a5, u6, hq, h⟩ := xp_seq h
      refine xk_goesI (xr_S (As := [.int x0]) (rest := []) C hP hS (ct_Model_targetOf htr hok hq) kq_Model_387 ⟨rfl, rfl, Nat.le_of_ble_eq_true rfl, Nat.le_of_ble_eq_true rfl⟩ ⟨Nat.le_of_ble_eq_true rfl, Nat.le_of_ble_eq_true rfl⟩ hl.1 rfl rfl (Nat.le_of_ble_eq_true rfl) dd_Model_isSame_26) hS (fun H locs hP hS => ?_)
      clear hq
      refine lv_istore_n (lv' := [(3, .int a5), (0, .ref (ad 0)), (1, .int x0), (2, .int x1)]) hx hb dd_Model_isSame_29 rfl hl (by decide) rfl (fun ls hl => ?_)
      refine lv_iload_n hx hb dd_Model_isSame_30 rfl (lv_at hl 3 rfl) ?_
      obtain ⟨a7, u8, hq, h⟩ := xp_seq h
      refine xk_goesI (xr_S (As := [.int x1]) (rest := []) C hP hS (ct_Model_targetOf htr hok hq) kq_Model_387 ⟨rfl, rfl, Nat.le_of_ble_eq_true rfl, Nat.le_of_ble_eq_true rfl⟩ ⟨Nat.le_of_ble_eq_true rfl, Nat.le_of_ble_eq_true rfl⟩ hl.1 rfl rfl (Nat.le_of_ble_eq_true rfl) dd_Model_isSame_31) hS (fun H locs hP hS => ?_)
      clear hq
      refine lv_istore (lv' := [(4, .int a7), (3, .int a5), (0, .ref (ad 0)), (1, .int x0), (2, .int x1)]) hx hb dd_Model_isSame_34 hl (by decide) rfl (fun ls hl => ?_)
      refine lv_iload_n hx hb dd_Model_isSame_36 rfl (lv_at hl 3 rfl) ?_
      refine lv_iconst (v := 1) hx hb dd_Model_isSame_37 (by decide) ?_
      refine lv_iand hx hb dd_Model_isSame_38 ?_
      refine lv_iload_n hx hb dd_Model_isSame_39 rfl (lv_at hl 4 rfl) ?_
      refine lv_iconst (v := 1) hx hb dd_Model_isSame_40 (by decide) ?_
      refine lv_iand hx hb dd_Model_isSame_41 ?_
      refine lv_icmp_ne (tgt := 86) hx hb dd_Model_isSame_42 (by decide) (fun hc => ?_) (fun hc => ?_)
      · have h := xp_f hc h
        refine lv_iconst (v := 0) hx hb dd_Model_isSame_86 (by decide) ?_
        obtain ⟨rfl, rfl⟩ := xp_r h
        exact xr_zret C hP hS (by decide) dd_Model_isSame_87
      · have h := xp_t hc h
        refine lv_iload_n hx hb dd_Model_isSame_45 rfl (lv_at hl 1 rfl) ?_
        refine lv_iload hx hb dd_Model_isSame_46 (lv_at hl 0 rfl) ?_
        refine lv_icmp_eq (tgt := 82) hx hb dd_Model_isSame_48 (by decide) (fun hc => ?_) (fun hc => ?_)
        · have h := xp_t hc h
          exact wj_Model_isSame_82 htr C hne h hP hS (lv_sub hl [] rfl)
        · have h := xp_f hc h
          refine lv_iload_n hx hb dd_Model_isSame_51 rfl (lv_at hl 1 rfl) ?_
          refine lv_iconst (v := 2) hx hb dd_Model_isSame_52 (by decide) ?_
          refine lv_icmp_lt (tgt := 86) hx hb dd_Model_isSame_53 (by decide) (fun hc => ?_) (fun hc => ?_)
          · have h := xp_t hc h
            refine lv_iconst (v := 0) hx hb dd_Model_isSame_86 (by decide) ?_
            obtain ⟨rfl, rfl⟩ := xp_r h
            exact xr_zret C hP hS (by decide) dd_Model_isSame_87
          · have h := xp_f hc h
            refine lv_iload hx hb dd_Model_isSame_56 (lv_at hl 0 rfl) ?_
            refine lv_iconst (v := 2) hx hb dd_Model_isSame_58 (by decide) ?_
            refine lv_icmp_lt (tgt := 86) hx hb dd_Model_isSame_59 (by decide) (fun hc => ?_) (fun hc => ?_)
            · have h := xp_t hc h
              refine lv_iconst (v := 0) hx hb dd_Model_isSame_86 (by decide) ?_
              obtain ⟨rfl, rfl⟩ := xp_r h
              exact xr_zret C hP hS (by decide) dd_Model_isSame_87
            · have h := xp_f hc h
              refine lv_aload_n hx hb dd_Model_isSame_62 rfl (lv_at hl 2 rfl) ?_
              refine gf_m_Model_0_alike C hP dd_Model_isSame_63 ?_
              refine lv_iload_n hx hb dd_Model_isSame_66 rfl (lv_at hl 1 rfl) ?_
              refine lv_iconst (v := 2) hx hb dd_Model_isSame_67 (by decide) ?_
              refine lv_isub hx hb dd_Model_isSame_68 ?_
              obtain ⟨hi, h⟩ := xp_g h
              refine al_m_10 C hP hi dd_Model_isSame_69 ?_
              refine lv_aload_n hx hb dd_Model_isSame_70 rfl (lv_at hl 2 rfl) ?_
              refine gf_m_Model_0_alike C hP dd_Model_isSame_71 ?_
              refine lv_iload hx hb dd_Model_isSame_74 (lv_at hl 0 rfl) ?_
              refine lv_iconst (v := 2) hx hb dd_Model_isSame_76 (by decide) ?_
              refine lv_isub hx hb dd_Model_isSame_77 ?_
              obtain ⟨hi, h⟩ := xp_g h
              refine al_m_10 C hP hi dd_Model_isSame_78 ?_
              refine lv_icmp_ne (tgt := 86) hx hb dd_Model_isSame_79 (by decide) (fun hc => ?_) (fun hc => ?_)
              · have h := xp_f hc h
                refine lv_iconst (v := 0) hx hb dd_Model_isSame_86 (by decide) ?_
                obtain ⟨rfl, rfl⟩ := xp_r h
                exact xr_zret C hP hS (by decide) dd_Model_isSame_87
              · have h := xp_t hc h
                exact wj_Model_isSame_82 htr C hne h hP hS (lv_sub hl [] rfl)
    · have h := xp_t hc h
      exact wj_Model_isSame_14 htr C hne h hP hS (lv_sub hl [1, 2] rfl)
abbrev rm_Model_checkEnd : Room := { frames := 6, cells := 1, slots := 6, locals := 110 }
noncomputable def jb_Model_checkEnd_118 (fu : Nat) (b1 : Int32) (b2 : Int64) (u : xk_St) : Option (Unit × xk_St) :=
  (if b1 < 0 ∨ 101 ≤ b1.toNatClampNeg then none else if (u.2.2.1 23 b1.toNatClampNeg) < 0 ∨ 8192 ≤ (u.2.2.1 23 b1.toNatClampNeg).toNatClampNeg then none else xs_let (xs_A u 20 (u.2.2.1 23 b1.toNatClampNeg).toNatClampNeg (u.1 4)) fun u4 => xs_let (xs_I u4 22 ((u4.1 22) - (1 : Int32))) fun u5 => if (u5.1 22) ≤ (0 : Int32) then (some ((()), u5)) else ((xs_seq (fm_Model_bring fu b2 (1 : Int32) u5) fun _ u6 => some ((()), u6))))
noncomputable def jb_Model_checkEnd_109 (fu : Nat) (k62 : Int32 → Int64 → Int32 → xk_St → Option (Unit × xk_St)) (b1 : Int32) (b2 : Int64) (b4 : Int32) (s0 : Int32) (u : xk_St) : Option (Unit × xk_St) :=
  (if s0 = 0 ∨ s0 = 1 then ( xs_let (xs_I u 7 s0) fun u16 => xs_let (b4 + (1 : Int32)) fun a17 => k62 b1 b2 a17 u16  ) else none)
noncomputable def jb_Model_checkEnd_62 (fu : Nat) : Nat → Int32 → Int64 → Int32 → xk_St → Option (Unit × xk_St)
  | 0 => fun _ _ _ _ => none
  | n + 1 => fun b1 b2 b4 u =>
    xs_let (jb_Model_checkEnd_62 fu  n) fun k62 =>
    (xs_seq (fm_Model_countOf b2 (0 : Int32) u) fun a8 u9 => if a8 ≤ b4 then (jb_Model_checkEnd_118 fu b1 b2 u9) else (if (u9.1 7) = (0 : Int32) then ((xs_seq (fm_Model_typeOf b2 (0 : Int32) b4 u9) fun a10 u11 => xs_seq (fm_Model_typeOf b2 (1 : Int32) b4 u11) fun a12 u13 => xs_seq (fm_Model_isSame a10 a12 u13) fun a14 u15 => if a14 = (0 : Int32) then (jb_Model_checkEnd_109 fu k62 b1 b2 b4 (1 : Int32) u15) else (jb_Model_checkEnd_109 fu k62 b1 b2 b4 (0 : Int32) u15))) else (jb_Model_checkEnd_118 fu b1 b2 u9)))
noncomputable def jb_Model_checkEnd_56 (fu : Nat) (b1 : Int32) (b2 : Int64) (s0 : Int32) (u : xk_St) : Option (Unit × xk_St) :=
  (if s0 = 0 ∨ s0 = 1 then ( xs_let (xs_I u 7 s0) fun u7 => jb_Model_checkEnd_62 fu fu b1 b2 (0 : Int32) u7  ) else none)
noncomputable def jb_Model_checkEnd_51 (fu : Nat) (b1 : Int32) (b2 : Int64) (u : xk_St) : Option (Unit × xk_St) :=
  jb_Model_checkEnd_56 fu b1 b2 (1 : Int32) u
noncomputable def fm_Model_checkEnd (fu : Nat) (u : xk_St) : Option (Unit × xk_St) :=
  (xs_seq (fm_Model_isOver fu u) fun _ u1 => xs_let ((u1.1 22) - (1 : Int32)) fun a2 => if a2 < 0 ∨ 101 ≤ a2.toNatClampNeg then none else xs_let (u1.2.2.2 1 a2.toNatClampNeg) fun a3 => if a2 < 0 ∨ 101 ≤ a2.toNatClampNeg then none else if (u1.2.2.1 24 a2.toNatClampNeg) = (4 : Int32) then (if (u1.1 7) = (0 : Int32) then ((xs_seq (fm_Model_countOf a3 (0 : Int32) u1) fun a18 u19 => xs_seq (fm_Model_countOf a3 (1 : Int32) u19) fun a20 u21 => if a18 = a20 then (jb_Model_checkEnd_56 fu a2 a3 (0 : Int32) u21) else (jb_Model_checkEnd_51 fu a2 a3 u21))) else (jb_Model_checkEnd_51 fu a2 a3 u1)) else (jb_Model_checkEnd_118 fu a2 a3 u1))
set_option maxHeartbeats 4000000 in
set_option maxRecDepth 100000 in
theorem wj_Model_checkEnd_118 {p : Program} {l : Launch} {e : Env} {s : State} {m : MethodId} {args : Array Value} {below : List Frame} {meth : Method} {c : Code} {D : va_G} {ad : Nat → Nat} {ca : Nat → ClassId} {ads : List Nat} {fu : Nat} (htr : l.stackTraces = false) (C : xk_C D kx_cl (kx_ty ca) (kw_m ad ca) ads "ModuleHouseModel" prog_14_method_78_code 5 none p e s m args meth c) (hne : c.exceptionTable.isEmpty = true) {u' : xk_St} {r : Unit} {b1 : Int32} {b2 : Int64} {u : xk_St} {H : Heap} {locs : List Loc} {ls : Array Slot} (h : jb_Model_checkEnd_118 fu  b1 b2 u = some (r, u')) (hP : va_P D kx_cl (kw_m ad ca u) H) (hS : va_S (xk_A ads s.heap.size) s.heap H locs) (hl : lv_has ls 5 [(0, .ref (ad 0)), (1, .int b1), (2, .long b2)]) : W p l e rm_Model_checkEnd s m args below meth c H locs 0 0 (xk_MQ below (xk_Qc D kx_cl (kw_m ad ca) ads (xo_v (.inl r)) u') args s (xk_A ads s.heap.size)) (F0 m 118 ls []) := by
  have hx := C.1.1
  have hb := C.1.2.1
  have hok := C.2.2.1
  unfold jb_Model_checkEnd_118 at h
  refine lv_aload_n hx hb dd_Model_checkEnd_118 rfl (lv_at hl 0 rfl) ?_
  refine gf_m_Model_0_ends C hP dd_Model_checkEnd_119 ?_
  refine lv_aload_n hx hb dd_Model_checkEnd_122 rfl (lv_at hl 0 rfl) ?_
  refine gf_m_Model_0_blockAt C hP dd_Model_checkEnd_123 ?_
  refine lv_iload_n hx hb dd_Model_checkEnd_126 rfl (lv_at hl 1 rfl) ?_
  obtain ⟨hi, h⟩ := xp_g h
  refine al_m_25 C hP hi dd_Model_checkEnd_127 ?_
  refine lv_aload_n hx hb dd_Model_checkEnd_128 rfl (lv_at hl 0 rfl) ?_
  refine gf_m_Model_0_at C hP dd_Model_checkEnd_129 ?_
  obtain ⟨hi, h⟩ := xp_g h
  refine as_m_22 C hP hS hi dd_Model_checkEnd_132 (fun H locs hP hS => ?_)
  obtain ⟨u4, eu4, h⟩ := xp_let h
  rw [← eu4] at hP
  refine lv_aload_n hx hb dd_Model_checkEnd_133 rfl (lv_at hl 0 rfl) ?_
  refine lv_dup hx hb dd_Model_checkEnd_134 rfl ?_
  refine gf_m_Model_0_blocks C hP dd_Model_checkEnd_135 ?_
  refine lv_iconst (v := 1) hx hb dd_Model_checkEnd_138 (by decide) ?_
  refine lv_isub hx hb dd_Model_checkEnd_139 ?_
  refine pf_m_Model_0_blocks C hP hS dd_Model_checkEnd_140 (fun H locs hP hS => ?_)
  obtain ⟨u5, eu5, h⟩ := xp_let h
  rw [← eu5] at hP
  refine lv_aload_n hx hb dd_Model_checkEnd_143 rfl (lv_at hl 0 rfl) ?_
  refine gf_m_Model_0_blocks C hP dd_Model_checkEnd_144 ?_
  refine lv_if_le (tgt := 156) hx hb dd_Model_checkEnd_147 (by decide) (fun hc => ?_) (fun hc => ?_)
  · have h := xp_t hc h
    obtain ⟨rfl, rfl⟩ := xp_r h
    exact xr_vret C hP hS dd_Model_checkEnd_156
  · have h := xp_f hc h
    refine lv_aload_n hx hb dd_Model_checkEnd_150 rfl (lv_at hl 0 rfl) ?_
    refine lv_lload_n hx hb dd_Model_checkEnd_151 rfl (lv_at hl 2 rfl) ?_
    refine lv_iconst (v := 1) hx hb dd_Model_checkEnd_152 (by decide) ?_
    obtain ⟨rx, u6, hq, h⟩ := xp_seq h
    refine xk_goesV (xr_V (As := [.long b2, .int (1 : Int32)]) (rest := []) C hP hS (ct_Model_bring htr hok hq) kq_Model_520 0 11 rfl rfl ⟨rfl, rfl, Nat.le_of_ble_eq_true rfl, Nat.le_of_ble_eq_true rfl⟩ ⟨Nat.le_of_ble_eq_true rfl, Nat.le_of_ble_eq_true rfl⟩ hl.1 rfl rfl (Nat.le_of_ble_eq_true rfl) dd_Model_checkEnd_153) hS (fun H locs hP hS => ?_)
    clear hq
    obtain ⟨rfl, rfl⟩ := xp_r h
    exact xr_vret C hP hS dd_Model_checkEnd_156
set_option maxHeartbeats 4000000 in
set_option maxRecDepth 100000 in
theorem wj_Model_checkEnd_109 {p : Program} {l : Launch} {e : Env} {s : State} {m : MethodId} {args : Array Value} {below : List Frame} {meth : Method} {c : Code} {D : va_G} {ad : Nat → Nat} {ca : Nat → ClassId} {ads : List Nat} {fu : Nat} (htr : l.stackTraces = false) (C : xk_C D kx_cl (kx_ty ca) (kw_m ad ca) ads "ModuleHouseModel" prog_14_method_78_code 5 none p e s m args meth c) (hne : c.exceptionTable.isEmpty = true) {u' : xk_St} {r : Unit} {k62 : Int32 → Int64 → Int32 → xk_St → Option (Unit × xk_St)} (hk62 : ∀ (c0 : Int32) (c1 : Int64) (c2 : Int32) (u : xk_St) (H : Heap) (locs : List Loc) (ls : Array Slot), k62 c0 c1 c2 u = some (r, u') → va_P D kx_cl (kw_m ad ca u) H → va_S (xk_A ads s.heap.size) s.heap H locs → lv_has ls 5 [(0, .ref (ad 0)), (1, .int c0), (2, .long c1), (4, .int c2)] → W p l e rm_Model_checkEnd s m args below meth c H locs 0 0 (xk_MQ below (xk_Qc D kx_cl (kw_m ad ca) ads (xo_v (.inl r)) u') args s (xk_A ads s.heap.size)) (F0 m 62 ls [])) {b1 : Int32} {b2 : Int64} {b4 : Int32} {s0 : Int32} {u : xk_St} {H : Heap} {locs : List Loc} {ls : Array Slot} (h : jb_Model_checkEnd_109 fu k62 b1 b2 b4 s0 u = some (r, u')) (hP : va_P D kx_cl (kw_m ad ca u) H) (hS : va_S (xk_A ads s.heap.size) s.heap H locs) (hl : lv_has ls 5 [(0, .ref (ad 0)), (1, .int b1), (2, .long b2), (4, .int b4)]) : W p l e rm_Model_checkEnd s m args below meth c H locs 0 0 (xk_MQ below (xk_Qc D kx_cl (kw_m ad ca) ads (xo_v (.inl r)) u') args s (xk_A ads s.heap.size)) (F0 m 109 ls [.int s0, .ref (ad 0)]) := by
  have hx := C.1.1
  have hb := C.1.2.1
  have hok := C.2.2.1
  unfold jb_Model_checkEnd_109 at h
  obtain ⟨hz, h⟩ := xp_p h
  refine pf_m_Model_0_wrong C hP hS hz dd_Model_checkEnd_109 (fun H locs hP hS => ?_)
  obtain ⟨u16, eu16, h⟩ := xp_let h
  rw [← eu16] at hP
  obtain ⟨a17, ea17, h⟩ := xp_let h
  refine lv_iinc (v := a17) (lv' := [(4, .int a17), (0, .ref (ad 0)), (1, .int b1), (2, .long b2)]) hx hb dd_Model_checkEnd_112 hl (k := 3) rfl (by rw [ea17]; first | rfl | decide) (by decide) rfl (fun ls hl => ?_)
  refine lv_goto (tgt := 62) hx hb dd_Model_checkEnd_115 (by decide) ?_
  exact hk62 b1 b2 a17 u16 _ _ _ h hP hS (lv_sub hl [1, 2, 3, 0] rfl)
set_option maxHeartbeats 4000000 in
set_option maxRecDepth 100000 in
theorem wj_Model_checkEnd_62 {p : Program} {l : Launch} {e : Env} {s : State} {m : MethodId} {args : Array Value} {below : List Frame} {meth : Method} {c : Code} {D : va_G} {ad : Nat → Nat} {ca : Nat → ClassId} {ads : List Nat} {fu : Nat} (htr : l.stackTraces = false) (C : xk_C D kx_cl (kx_ty ca) (kw_m ad ca) ads "ModuleHouseModel" prog_14_method_78_code 5 none p e s m args meth c) (hne : c.exceptionTable.isEmpty = true) {u' : xk_St} {r : Unit} : ∀ {n : Nat} {b1 : Int32} {b2 : Int64} {b4 : Int32} {u : xk_St} {H : Heap} {locs : List Loc} {ls : Array Slot} (h : jb_Model_checkEnd_62 fu  n b1 b2 b4 u = some (r, u')) (hP : va_P D kx_cl (kw_m ad ca u) H) (hS : va_S (xk_A ads s.heap.size) s.heap H locs) (hl : lv_has ls 5 [(0, .ref (ad 0)), (1, .int b1), (2, .long b2), (4, .int b4)]), W p l e rm_Model_checkEnd s m args below meth c H locs 0 0 (xk_MQ below (xk_Qc D kx_cl (kw_m ad ca) ads (xo_v (.inl r)) u') args s (xk_A ads s.heap.size)) (F0 m 62 ls []) := by
  intro n
  have hx := C.1.1
  have hb := C.1.2.1
  have hok := C.2.2.1
  induction n with
  | zero =>
    intro _ _ _ u H locs ls h
    have h : none = some (r, u') := h
    cases h
  | succ n ih =>
    intro b1 b2 b4 u H locs ls h hP hS hl
    unfold jb_Model_checkEnd_62 at h
    obtain ⟨k62, ek62, h⟩ := xp_let h
    have hk62 : ∀ (c0 : Int32) (c1 : Int64) (c2 : Int32) (u : xk_St) (H : Heap) (locs : List Loc) (ls : Array Slot), k62 c0 c1 c2 u = some (r, u') → va_P D kx_cl (kw_m ad ca u) H → va_S (xk_A ads s.heap.size) s.heap H locs → lv_has ls 5 [(0, .ref (ad 0)), (1, .int c0), (2, .long c1), (4, .int c2)] → W p l e rm_Model_checkEnd s m args below meth c H locs 0 0 (xk_MQ below (xk_Qc D kx_cl (kw_m ad ca) ads (xo_v (.inl r)) u') args s (xk_A ads s.heap.size)) (F0 m 62 ls []) := by
      intro c0 c1 c2 u H locs ls h hP hS hl
      subst ek62
      exact ih h hP hS hl
    clear ih ek62
    refine lv_iload hx hb dd_Model_checkEnd_62 (lv_at hl 3 rfl) ?_
    refine lv_aload_n hx hb dd_Model_checkEnd_64 rfl (lv_at hl 0 rfl) ?_
    refine lv_lload_n hx hb dd_Model_checkEnd_65 rfl (lv_at hl 2 rfl) ?_
    refine lv_iconst (v := 0) hx hb dd_Model_checkEnd_66 (by decide) ?_
    obtain ⟨a8, u9, hq, h⟩ := xp_seq h
    refine xk_goesI (xr_V (As := [.long b2, .int (0 : Int32)]) (rest := [.int b4]) C hP hS (ct_Model_countOf htr hok hq) kq_Model_496 0 11 rfl rfl ⟨rfl, rfl, Nat.le_of_ble_eq_true rfl, Nat.le_of_ble_eq_true rfl⟩ ⟨Nat.le_of_ble_eq_true rfl, Nat.le_of_ble_eq_true rfl⟩ hl.1 rfl rfl (Nat.le_of_ble_eq_true rfl) dd_Model_checkEnd_67) hS (fun H locs hP hS => ?_)
    clear hq
    refine lv_icmp_ge (tgt := 118) hx hb dd_Model_checkEnd_70 (by decide) (fun hc => ?_) (fun hc => ?_)
    · have h := xp_t hc h
      exact wj_Model_checkEnd_118 htr C hne h hP hS (lv_sub hl [0, 1, 2] rfl)
    · have h := xp_f hc h
      refine lv_aload_n hx hb dd_Model_checkEnd_73 rfl (lv_at hl 0 rfl) ?_
      refine gf_m_Model_0_wrong C hP dd_Model_checkEnd_74 ?_
      refine lv_if_ne (tgt := 118) hx hb dd_Model_checkEnd_77 (by decide) (fun hc => ?_) (fun hc => ?_)
      · have h := xp_f hc h
        exact wj_Model_checkEnd_118 htr C hne h hP hS (lv_sub hl [0, 1, 2] rfl)
      · have h := xp_t hc h
        refine lv_aload_n hx hb dd_Model_checkEnd_80 rfl (lv_at hl 0 rfl) ?_
        refine lv_aload_n hx hb dd_Model_checkEnd_81 rfl (lv_at hl 0 rfl) ?_
        refine lv_aload_n hx hb dd_Model_checkEnd_82 rfl (lv_at hl 0 rfl) ?_
        refine lv_lload_n hx hb dd_Model_checkEnd_83 rfl (lv_at hl 2 rfl) ?_
        refine lv_iconst (v := 0) hx hb dd_Model_checkEnd_84 (by decide) ?_
        refine lv_iload hx hb dd_Model_checkEnd_85 (lv_at hl 3 rfl) ?_
        obtain ⟨a10, u11, hq, h⟩ := xp_seq h
        refine xk_goesI (xr_V (As := [.long b2, .int (0 : Int32), .int b4]) (rest := [.ref (ad 0), .ref (ad 0)]) C hP hS (ct_Model_typeOf htr hok hq) kq_Model_500 0 11 rfl rfl ⟨rfl, rfl, Nat.le_of_ble_eq_true rfl, Nat.le_of_ble_eq_true rfl⟩ ⟨Nat.le_of_ble_eq_true rfl, Nat.le_of_ble_eq_true rfl⟩ hl.1 rfl rfl (Nat.le_of_ble_eq_true rfl) dd_Model_checkEnd_87) hS (fun H locs hP hS => ?_)
        clear hq
        refine lv_aload_n hx hb dd_Model_checkEnd_90 rfl (lv_at hl 0 rfl) ?_
        refine lv_lload_n hx hb dd_Model_checkEnd_91 rfl (lv_at hl 2 rfl) ?_
        refine lv_iconst (v := 1) hx hb dd_Model_checkEnd_92 (by decide) ?_
        refine lv_iload hx hb dd_Model_checkEnd_93 (lv_at hl 3 rfl) ?_
        obtain ⟨a12, u13, hq, h⟩ := xp_seq h
        refine xk_goesI (xr_V (As := [.long b2, .int (1 : Int32), .int b4]) (rest := [.int a10, .ref (ad 0), .ref (ad 0)]) C hP hS (ct_Model_typeOf htr hok hq) kq_Model_500 0 11 rfl rfl ⟨rfl, rfl, Nat.le_of_ble_eq_true rfl, Nat.le_of_ble_eq_true rfl⟩ ⟨Nat.le_of_ble_eq_true rfl, Nat.le_of_ble_eq_true rfl⟩ hl.1 rfl rfl (Nat.le_of_ble_eq_true rfl) dd_Model_checkEnd_95) hS (fun H locs hP hS => ?_)
        clear hq
        obtain ⟨a14, u15, hq, h⟩ := xp_seq h
        refine xk_goesI (xr_V (As := [.int a10, .int a12]) (rest := [.ref (ad 0)]) C hP hS (ct_Model_isSame htr hok hq) kq_Model_551 0 11 rfl rfl ⟨rfl, rfl, Nat.le_of_ble_eq_true rfl, Nat.le_of_ble_eq_true rfl⟩ ⟨Nat.le_of_ble_eq_true rfl, Nat.le_of_ble_eq_true rfl⟩ hl.1 rfl rfl (Nat.le_of_ble_eq_true rfl) dd_Model_checkEnd_98) hS (fun H locs hP hS => ?_)
        clear hq
        refine lv_if_ne (tgt := 108) hx hb dd_Model_checkEnd_101 (by decide) (fun hc => ?_) (fun hc => ?_)
        · have h := xp_f hc h
          refine lv_iconst (v := 0) hx hb dd_Model_checkEnd_108 (by decide) ?_
          exact wj_Model_checkEnd_109 htr C hne hk62 h hP hS (lv_sub hl [0, 1, 2, 3] rfl)
        · have h := xp_t hc h
          refine lv_iconst (v := 1) hx hb dd_Model_checkEnd_104 (by decide) ?_
          refine lv_goto (tgt := 109) hx hb dd_Model_checkEnd_105 (by decide) ?_
          exact wj_Model_checkEnd_109 htr C hne hk62 h hP hS (lv_sub hl [0, 1, 2, 3] rfl)
set_option maxHeartbeats 4000000 in
set_option maxRecDepth 100000 in
theorem wj_Model_checkEnd_56 {p : Program} {l : Launch} {e : Env} {s : State} {m : MethodId} {args : Array Value} {below : List Frame} {meth : Method} {c : Code} {D : va_G} {ad : Nat → Nat} {ca : Nat → ClassId} {ads : List Nat} {fu : Nat} (htr : l.stackTraces = false) (C : xk_C D kx_cl (kx_ty ca) (kw_m ad ca) ads "ModuleHouseModel" prog_14_method_78_code 5 none p e s m args meth c) (hne : c.exceptionTable.isEmpty = true) {u' : xk_St} {r : Unit} {b1 : Int32} {b2 : Int64} {s0 : Int32} {u : xk_St} {H : Heap} {locs : List Loc} {ls : Array Slot} (h : jb_Model_checkEnd_56 fu  b1 b2 s0 u = some (r, u')) (hP : va_P D kx_cl (kw_m ad ca u) H) (hS : va_S (xk_A ads s.heap.size) s.heap H locs) (hl : lv_has ls 5 [(0, .ref (ad 0)), (1, .int b1), (2, .long b2)]) : W p l e rm_Model_checkEnd s m args below meth c H locs 0 0 (xk_MQ below (xk_Qc D kx_cl (kw_m ad ca) ads (xo_v (.inl r)) u') args s (xk_A ads s.heap.size)) (F0 m 56 ls [.int s0, .ref (ad 0)]) := by
  have hx := C.1.1
  have hb := C.1.2.1
  have hok := C.2.2.1
  unfold jb_Model_checkEnd_56 at h
  obtain ⟨hz, h⟩ := xp_p h
  refine pf_m_Model_0_wrong C hP hS hz dd_Model_checkEnd_56 (fun H locs hP hS => ?_)
  obtain ⟨u7, eu7, h⟩ := xp_let h
  rw [← eu7] at hP
  refine lv_iconst (v := 0) hx hb dd_Model_checkEnd_59 (by decide) ?_
  refine lv_istore (lv' := [(4, .int (0 : Int32)), (0, .ref (ad 0)), (1, .int b1), (2, .long b2)]) hx hb dd_Model_checkEnd_60 hl (by decide) rfl (fun ls hl => ?_)
  exact wj_Model_checkEnd_62 htr C hne h hP hS (lv_sub hl [1, 2, 3, 0] rfl)
set_option maxHeartbeats 4000000 in
set_option maxRecDepth 100000 in
theorem wj_Model_checkEnd_51 {p : Program} {l : Launch} {e : Env} {s : State} {m : MethodId} {args : Array Value} {below : List Frame} {meth : Method} {c : Code} {D : va_G} {ad : Nat → Nat} {ca : Nat → ClassId} {ads : List Nat} {fu : Nat} (htr : l.stackTraces = false) (C : xk_C D kx_cl (kx_ty ca) (kw_m ad ca) ads "ModuleHouseModel" prog_14_method_78_code 5 none p e s m args meth c) (hne : c.exceptionTable.isEmpty = true) {u' : xk_St} {r : Unit} {b1 : Int32} {b2 : Int64} {u : xk_St} {H : Heap} {locs : List Loc} {ls : Array Slot} (h : jb_Model_checkEnd_51 fu  b1 b2 u = some (r, u')) (hP : va_P D kx_cl (kw_m ad ca u) H) (hS : va_S (xk_A ads s.heap.size) s.heap H locs) (hl : lv_has ls 5 [(0, .ref (ad 0)), (1, .int b1), (2, .long b2)]) : W p l e rm_Model_checkEnd s m args below meth c H locs 0 0 (xk_MQ below (xk_Qc D kx_cl (kw_m ad ca) ads (xo_v (.inl r)) u') args s (xk_A ads s.heap.size)) (F0 m 51 ls [.ref (ad 0)]) := by
  have hx := C.1.1
  have hb := C.1.2.1
  have hok := C.2.2.1
  unfold jb_Model_checkEnd_51 at h
  refine lv_iconst (v := 1) hx hb dd_Model_checkEnd_51 (by decide) ?_
  refine lv_goto (tgt := 56) hx hb dd_Model_checkEnd_52 (by decide) ?_
  exact wj_Model_checkEnd_56 htr C hne h hP hS (lv_sub hl [0, 1, 2] rfl)
set_option maxHeartbeats 4000000 in
set_option maxRecDepth 100000 in
theorem ct_Model_checkEnd {l : Launch} {D : va_G} {ad : Nat → Nat} {ca : Nat → ClassId} {ads : List Nat} (htr : l.stackTraces = false) (hok : xk_ok (kw_m ad ca) ads) {fu : Nat} {u u' : xk_St} {r : Unit} (h : fm_Model_checkEnd fu u = some (r, u')) :
    ∀ sz, xk_Met l ⟨"ModuleHouseModel", "checkEnd", "()V"⟩ (Cond.code ⟨"ModuleHouseModel", "checkEnd", "()V"⟩ prog_14_method_78_code 5 none :: xk_gd) rm_Model_checkEnd (xk_Pc D kx_cl (kx_ty ca) (kw_m ad ca) ads xk_F sz [.ref (ad 0)] u) (xk_Qc D kx_cl (kw_m ad ca) ads (xo_v (.inl r)) u') (xk_A ads sz) := by
  unfold fm_Model_checkEnd at h
  refine xk_con (by decide) htr hok (Nat.le_of_ble_eq_true rfl) (fun p e s m below meth c ls C hne hl hP => ?_)
  have hx := C.1.1
  have hb := C.1.2.1
  have hS : va_S (xk_A ads s.heap.size) s.heap s.heap [] := va_S.rf
  have hl : lv_has ls 5 [(0, .ref (ad 0))] := hl
  refine lv_aload_n hx hb dd_Model_checkEnd_0 rfl (lv_at hl 0 rfl) ?_
  obtain ⟨rx, u1, hq, h⟩ := xp_seq h
  refine xk_goesV (xr_V (As := []) (rest := []) C hP hS (ct_Model_isOver htr hok hq) kq_Model_548 0 11 rfl rfl ⟨rfl, rfl, Nat.le_of_ble_eq_true rfl, Nat.le_of_ble_eq_true rfl⟩ ⟨Nat.le_of_ble_eq_true rfl, Nat.le_of_ble_eq_true rfl⟩ hl.1 rfl rfl (Nat.le_of_ble_eq_true rfl) dd_Model_checkEnd_1) hS (fun H locs hP hS => ?_)
  clear hq
  refine lv_aload_n hx hb dd_Model_checkEnd_4 rfl (lv_at hl 0 rfl) ?_
  refine gf_m_Model_0_blocks C hP dd_Model_checkEnd_5 ?_
  refine lv_iconst (v := 1) hx hb dd_Model_checkEnd_8 (by decide) ?_
  refine lv_isub hx hb dd_Model_checkEnd_9 ?_
  obtain ⟨a2, ea2, h⟩ := xp_let h
  refine xr_nami ea2 ?_
  refine lv_istore_n (lv' := [(1, .int a2), (0, .ref (ad 0))]) hx hb dd_Model_checkEnd_10 rfl hl (by decide) rfl (fun ls hl => ?_)
  refine lv_aload_n hx hb dd_Model_checkEnd_11 rfl (lv_at hl 1 rfl) ?_
  refine gf_m_Model_0_blockType C hP dd_Model_checkEnd_12 ?_
  refine lv_iload_n hx hb dd_Model_checkEnd_15 rfl (lv_at hl 0 rfl) ?_
  obtain ⟨hi, h⟩ := xp_g h
  refine al_m_27 C hP hi dd_Model_checkEnd_16 ?_
  obtain ⟨a3, ea3, h⟩ := xp_let h
  refine xr_naml ea3 ?_
  refine lv_lstore_n (lv' := [(2, .long a3), (1, .int a2), (0, .ref (ad 0))]) hx hb dd_Model_checkEnd_17 rfl hl (by decide) rfl (fun ls hl => ?_)
  refine lv_aload_n hx hb dd_Model_checkEnd_18 rfl (lv_at hl 2 rfl) ?_
  refine gf_m_Model_0_blockOp C hP dd_Model_checkEnd_19 ?_
  refine lv_iload_n hx hb dd_Model_checkEnd_22 rfl (lv_at hl 1 rfl) ?_
  obtain ⟨hi, h⟩ := xp_g h
  refine al_m_26 C hP hi dd_Model_checkEnd_23 ?_
  refine lv_iconst (v := 4) hx hb dd_Model_checkEnd_24 (by decide) ?_
  refine lv_icmp_ne (tgt := 118) hx hb dd_Model_checkEnd_25 (by decide) (fun hc => ?_) (fun hc => ?_)
  · have h := xp_f hc h
    exact wj_Model_checkEnd_118 htr C hne h hP hS (lv_sub hl [2, 1, 0] rfl)
  · have h := xp_t hc h
    refine lv_aload_n hx hb dd_Model_checkEnd_28 rfl (lv_at hl 2 rfl) ?_
    refine lv_aload_n hx hb dd_Model_checkEnd_29 rfl (lv_at hl 2 rfl) ?_
    refine gf_m_Model_0_wrong C hP dd_Model_checkEnd_30 ?_
    refine lv_if_ne (tgt := 51) hx hb dd_Model_checkEnd_33 (by decide) (fun hc => ?_) (fun hc => ?_)
    · have h := xp_f hc h
      exact wj_Model_checkEnd_51 htr C hne h hP hS (lv_sub hl [2, 1, 0] rfl)
    · have h := xp_t hc h
      refine lv_aload_n hx hb dd_Model_checkEnd_36 rfl (lv_at hl 2 rfl) ?_
      refine lv_lload_n hx hb dd_Model_checkEnd_37 rfl (lv_at hl 0 rfl) ?_
      refine lv_iconst (v := 0) hx hb dd_Model_checkEnd_38 (by decide) ?_
      obtain ⟨a18, u19, hq, h⟩ := xp_seq h
      refine xk_goesI (xr_V (As := [.long a3, .int (0 : Int32)]) (rest := [.ref (ad 0)]) C hP hS (ct_Model_countOf htr hok hq) kq_Model_496 0 11 rfl rfl ⟨rfl, rfl, Nat.le_of_ble_eq_true rfl, Nat.le_of_ble_eq_true rfl⟩ ⟨Nat.le_of_ble_eq_true rfl, Nat.le_of_ble_eq_true rfl⟩ hl.1 rfl rfl (Nat.le_of_ble_eq_true rfl) dd_Model_checkEnd_39) hS (fun H locs hP hS => ?_)
      clear hq
      refine lv_aload_n hx hb dd_Model_checkEnd_42 rfl (lv_at hl 2 rfl) ?_
      refine lv_lload_n hx hb dd_Model_checkEnd_43 rfl (lv_at hl 0 rfl) ?_
      refine lv_iconst (v := 1) hx hb dd_Model_checkEnd_44 (by decide) ?_
      obtain ⟨a20, u21, hq, h⟩ := xp_seq h
      refine xk_goesI (xr_V (As := [.long a3, .int (1 : Int32)]) (rest := [.int a18, .ref (ad 0)]) C hP hS (ct_Model_countOf htr hok hq) kq_Model_496 0 11 rfl rfl ⟨rfl, rfl, Nat.le_of_ble_eq_true rfl, Nat.le_of_ble_eq_true rfl⟩ ⟨Nat.le_of_ble_eq_true rfl, Nat.le_of_ble_eq_true rfl⟩ hl.1 rfl rfl (Nat.le_of_ble_eq_true rfl) dd_Model_checkEnd_45) hS (fun H locs hP hS => ?_)
      clear hq
      refine lv_icmp_eq (tgt := 55) hx hb dd_Model_checkEnd_48 (by decide) (fun hc => ?_) (fun hc => ?_)
      · have h := xp_t hc h
        refine lv_iconst (v := 0) hx hb dd_Model_checkEnd_55 (by decide) ?_
        exact wj_Model_checkEnd_56 htr C hne h hP hS (lv_sub hl [2, 1, 0] rfl)
      · have h := xp_f hc h
        exact wj_Model_checkEnd_51 htr C hne h hP hS (lv_sub hl [2, 1, 0] rfl)
abbrev rm_Model_checkWay : Room := { frames := 3, cells := 1, slots := 6, locals := 44 }
noncomputable def jb_Model_checkWay_166 (fu : Nat) (k57 : Int32 → Int32 → Int32 → Int32 → xk_St → Option (Unit × xk_St)) (b3 : Int32) (b4 : Int32) (b5 : Int32) (b6 : Int32) (s0 : Int32) (u : xk_St) : Option (Unit × xk_St) :=
  (if s0 = 0 ∨ s0 = 1 then ( xs_let (xs_I u 7 s0) fun u7 => xs_let (b6 + (1 : Int32)) fun a8 => k57 b3 b4 b5 a8 u7  ) else none)
noncomputable def jb_Model_checkWay_102 (fu : Nat) (k57 : Int32 → Int32 → Int32 → Int32 → xk_St → Option (Unit × xk_St)) (b3 : Int32) (b4 : Int32) (b5 : Int32) (b6 : Int32) (b7 : Int32) (s0 : Int32) (u : xk_St) : Option (Unit × xk_St) :=
  if s0 = (0 : Int32) then ((if ((u.1 22) - (1 : Int32)) < 0 ∨ 101 ≤ ((u.1 22) - (1 : Int32)).toNatClampNeg then none else if (u.2.2.1 26 ((u.1 22) - (1 : Int32)).toNatClampNeg) = (0 : Int32) then (jb_Model_checkWay_166 fu k57 b3 b4 b5 b6 (1 : Int32) u) else (jb_Model_checkWay_166 fu k57 b3 b4 b5 b6 (0 : Int32) u))) else ((if b7 < 0 ∨ 101 ≤ b7.toNatClampNeg then none else if b4 < 0 ∨ 101 ≤ b4.toNatClampNeg then none else xs_seq (fm_Model_typeOf (u.2.2.2 1 b4.toNatClampNeg) b5 b6 u) fun a9 u10 => xs_seq (fm_Model_fits (u.2.2.1 22 b7.toNatClampNeg) a9 u10) fun a11 u12 => if a11 = (0 : Int32) then (jb_Model_checkWay_166 fu k57 b3 b4 b5 b6 (1 : Int32) u12) else (jb_Model_checkWay_166 fu k57 b3 b4 b5 b6 (0 : Int32) u12)))
noncomputable def jb_Model_checkWay_57 (fu : Nat) : Nat → Int32 → Int32 → Int32 → Int32 → xk_St → Option (Unit × xk_St)
  | 0 => fun _ _ _ _ _ => none
  | n + 1 => fun b3 b4 b5 b6 u =>
    xs_let (jb_Model_checkWay_57 fu  n) fun k57 =>
    if b3 ≤ b6 then (some ((()), u)) else (if (u.1 7) = (0 : Int32) then ((xs_let (((u.1 21) - b3) + b6) fun a6 => if ((u.1 22) - (1 : Int32)) < 0 ∨ 101 ≤ ((u.1 22) - (1 : Int32)).toNatClampNeg then none else if a6 < (u.2.2.1 25 ((u.1 22) - (1 : Int32)).toNatClampNeg) then (jb_Model_checkWay_102 fu k57 b3 b4 b5 b6 a6 (0 : Int32) u) else (jb_Model_checkWay_102 fu k57 b3 b4 b5 b6 a6 (1 : Int32) u))) else (some ((()), u)))
noncomputable def jb_Model_checkWay_51 (fu : Nat) (b3 : Int32) (b4 : Int32) (b5 : Int32) (s0 : Int32) (u : xk_St) : Option (Unit × xk_St) :=
  (if s0 = 0 ∨ s0 = 1 then ( xs_let (xs_I u 7 s0) fun u5 => jb_Model_checkWay_57 fu fu b3 b4 b5 (0 : Int32) u5  ) else none)
noncomputable def jb_Model_checkWay_46 (fu : Nat) (b3 : Int32) (b4 : Int32) (b5 : Int32) (u : xk_St) : Option (Unit × xk_St) :=
  jb_Model_checkWay_51 fu b3 b4 b5 (1 : Int32) u
noncomputable def fm_Model_checkWay (fu : Nat) (x0 : Int64) (x1 : Int32) (u : xk_St) : Option (Unit × xk_St) :=
  (xs_seq (fm_Model_out x0 u) fun a1 u2 => if (0 : Int32) ≤ a1 then ((xs_seq (fm_Model_leadsToResults a1 u2) fun a3 u4 => if (u4.1 7) = (0 : Int32) then ((if a1 < 0 ∨ 101 ≤ a1.toNatClampNeg then none else xs_seq (fm_Model_countOf (u4.2.2.2 1 a1.toNatClampNeg) a3 u4) fun a13 u14 => if a13 = x1 then (jb_Model_checkWay_51 fu x1 a1 a3 (0 : Int32) u14) else (jb_Model_checkWay_46 fu x1 a1 a3 u14))) else (jb_Model_checkWay_46 fu x1 a1 a3 u4))) else (some ((()), u2)))
set_option maxHeartbeats 4000000 in
set_option maxRecDepth 100000 in
theorem wj_Model_checkWay_166 {p : Program} {l : Launch} {e : Env} {s : State} {m : MethodId} {args : Array Value} {below : List Frame} {meth : Method} {c : Code} {D : va_G} {ad : Nat → Nat} {ca : Nat → ClassId} {ads : List Nat} {fu : Nat} (htr : l.stackTraces = false) (C : xk_C D kx_cl (kx_ty ca) (kw_m ad ca) ads "ModuleHouseModel" prog_14_method_79_code 9 none p e s m args meth c) (hne : c.exceptionTable.isEmpty = true) {u' : xk_St} {r : Unit} {k57 : Int32 → Int32 → Int32 → Int32 → xk_St → Option (Unit × xk_St)} (hk57 : ∀ (c0 : Int32) (c1 : Int32) (c2 : Int32) (c3 : Int32) (u : xk_St) (H : Heap) (locs : List Loc) (ls : Array Slot), k57 c0 c1 c2 c3 u = some (r, u') → va_P D kx_cl (kw_m ad ca u) H → va_S (xk_A ads s.heap.size) s.heap H locs → lv_has ls 9 [(0, .ref (ad 0)), (3, .int c0), (4, .int c1), (5, .int c2), (6, .int c3)] → W p l e rm_Model_checkWay s m args below meth c H locs 0 0 (xk_MQ below (xk_Qc D kx_cl (kw_m ad ca) ads (xo_v (.inl r)) u') args s (xk_A ads s.heap.size)) (F0 m 57 ls [])) {b3 : Int32} {b4 : Int32} {b5 : Int32} {b6 : Int32} {s0 : Int32} {u : xk_St} {H : Heap} {locs : List Loc} {ls : Array Slot} (h : jb_Model_checkWay_166 fu k57 b3 b4 b5 b6 s0 u = some (r, u')) (hP : va_P D kx_cl (kw_m ad ca u) H) (hS : va_S (xk_A ads s.heap.size) s.heap H locs) (hl : lv_has ls 9 [(0, .ref (ad 0)), (3, .int b3), (4, .int b4), (5, .int b5), (6, .int b6)]) : W p l e rm_Model_checkWay s m args below meth c H locs 0 0 (xk_MQ below (xk_Qc D kx_cl (kw_m ad ca) ads (xo_v (.inl r)) u') args s (xk_A ads s.heap.size)) (F0 m 166 ls [.int s0, .ref (ad 0)]) := by
  have hx := C.1.1
  have hb := C.1.2.1
  have hok := C.2.2.1
  unfold jb_Model_checkWay_166 at h
  obtain ⟨hz, h⟩ := xp_p h
  refine pf_m_Model_0_wrong C hP hS hz dd_Model_checkWay_166 (fun H locs hP hS => ?_)
  obtain ⟨u7, eu7, h⟩ := xp_let h
  rw [← eu7] at hP
  obtain ⟨a8, ea8, h⟩ := xp_let h
  refine lv_iinc (v := a8) (lv' := [(6, .int a8), (0, .ref (ad 0)), (3, .int b3), (4, .int b4), (5, .int b5)]) hx hb dd_Model_checkWay_169 hl (k := 4) rfl (by rw [ea8]; first | rfl | decide) (by decide) rfl (fun ls hl => ?_)
  refine lv_goto (tgt := 57) hx hb dd_Model_checkWay_172 (by decide) ?_
  exact hk57 b3 b4 b5 a8 u7 _ _ _ h hP hS (lv_sub hl [1, 2, 3, 4, 0] rfl)
set_option maxHeartbeats 4000000 in
set_option maxRecDepth 100000 in
theorem wj_Model_checkWay_102 {p : Program} {l : Launch} {e : Env} {s : State} {m : MethodId} {args : Array Value} {below : List Frame} {meth : Method} {c : Code} {D : va_G} {ad : Nat → Nat} {ca : Nat → ClassId} {ads : List Nat} {fu : Nat} (htr : l.stackTraces = false) (C : xk_C D kx_cl (kx_ty ca) (kw_m ad ca) ads "ModuleHouseModel" prog_14_method_79_code 9 none p e s m args meth c) (hne : c.exceptionTable.isEmpty = true) {u' : xk_St} {r : Unit} {k57 : Int32 → Int32 → Int32 → Int32 → xk_St → Option (Unit × xk_St)} (hk57 : ∀ (c0 : Int32) (c1 : Int32) (c2 : Int32) (c3 : Int32) (u : xk_St) (H : Heap) (locs : List Loc) (ls : Array Slot), k57 c0 c1 c2 c3 u = some (r, u') → va_P D kx_cl (kw_m ad ca u) H → va_S (xk_A ads s.heap.size) s.heap H locs → lv_has ls 9 [(0, .ref (ad 0)), (3, .int c0), (4, .int c1), (5, .int c2), (6, .int c3)] → W p l e rm_Model_checkWay s m args below meth c H locs 0 0 (xk_MQ below (xk_Qc D kx_cl (kw_m ad ca) ads (xo_v (.inl r)) u') args s (xk_A ads s.heap.size)) (F0 m 57 ls [])) {b3 : Int32} {b4 : Int32} {b5 : Int32} {b6 : Int32} {b7 : Int32} {s0 : Int32} {u : xk_St} {H : Heap} {locs : List Loc} {ls : Array Slot} (h : jb_Model_checkWay_102 fu k57 b3 b4 b5 b6 b7 s0 u = some (r, u')) (hP : va_P D kx_cl (kw_m ad ca u) H) (hS : va_S (xk_A ads s.heap.size) s.heap H locs) (hl : lv_has ls 9 [(0, .ref (ad 0)), (3, .int b3), (4, .int b4), (5, .int b5), (6, .int b6), (7, .int b7)]) : W p l e rm_Model_checkWay s m args below meth c H locs 0 0 (xk_MQ below (xk_Qc D kx_cl (kw_m ad ca) ads (xo_v (.inl r)) u') args s (xk_A ads s.heap.size)) (F0 m 102 ls [.int s0]) := by
  have hx := C.1.1
  have hb := C.1.2.1
  have hok := C.2.2.1
  unfold jb_Model_checkWay_102 at h
  refine lv_istore (lv' := [(8, .int s0), (0, .ref (ad 0)), (3, .int b3), (4, .int b4), (5, .int b5), (6, .int b6), (7, .int b7)]) hx hb dd_Model_checkWay_102 hl (by decide) rfl (fun ls hl => ?_)
  refine lv_aload_n hx hb dd_Model_checkWay_104 rfl (lv_at hl 1 rfl) ?_
  refine lv_iload hx hb dd_Model_checkWay_105 (lv_at hl 0 rfl) ?_
  refine lv_if_eq (tgt := 147) hx hb dd_Model_checkWay_107 (by decide) (fun hc => ?_) (fun hc => ?_)
  · have h := xp_t hc h
    refine lv_aload_n hx hb dd_Model_checkWay_147 rfl (lv_at hl 1 rfl) ?_
    refine gf_m_Model_0_blockDead C hP dd_Model_checkWay_148 ?_
    refine lv_aload_n hx hb dd_Model_checkWay_151 rfl (lv_at hl 1 rfl) ?_
    refine gf_m_Model_0_blocks C hP dd_Model_checkWay_152 ?_
    refine lv_iconst (v := 1) hx hb dd_Model_checkWay_155 (by decide) ?_
    refine lv_isub hx hb dd_Model_checkWay_156 ?_
    obtain ⟨hi, h⟩ := xp_g h
    refine al_m_29 C hP hi dd_Model_checkWay_157 ?_
    refine lv_if_ne (tgt := 165) hx hb dd_Model_checkWay_158 (by decide) (fun hc => ?_) (fun hc => ?_)
    · have h := xp_f hc h
      refine lv_iconst (v := 0) hx hb dd_Model_checkWay_165 (by decide) ?_
      exact wj_Model_checkWay_166 htr C hne hk57 h hP hS (lv_sub hl [1, 2, 3, 4, 5] rfl)
    · have h := xp_t hc h
      refine lv_iconst (v := 1) hx hb dd_Model_checkWay_161 (by decide) ?_
      refine lv_goto (tgt := 166) hx hb dd_Model_checkWay_162 (by decide) ?_
      exact wj_Model_checkWay_166 htr C hne hk57 h hP hS (lv_sub hl [1, 2, 3, 4, 5] rfl)
  · have h := xp_f hc h
    refine lv_aload_n hx hb dd_Model_checkWay_110 rfl (lv_at hl 1 rfl) ?_
    refine lv_aload_n hx hb dd_Model_checkWay_111 rfl (lv_at hl 1 rfl) ?_
    refine gf_m_Model_0_stack C hP dd_Model_checkWay_112 ?_
    refine lv_iload hx hb dd_Model_checkWay_115 (lv_at hl 6 rfl) ?_
    obtain ⟨hi, h⟩ := xp_g h
    refine al_m_24 C hP hi dd_Model_checkWay_117 ?_
    refine lv_aload_n hx hb dd_Model_checkWay_118 rfl (lv_at hl 1 rfl) ?_
    refine lv_aload_n hx hb dd_Model_checkWay_119 rfl (lv_at hl 1 rfl) ?_
    refine gf_m_Model_0_blockType C hP dd_Model_checkWay_120 ?_
    refine lv_iload hx hb dd_Model_checkWay_123 (lv_at hl 3 rfl) ?_
    obtain ⟨hi, h⟩ := xp_g h
    refine al_m_27 C hP hi dd_Model_checkWay_125 ?_
    refine lv_iload hx hb dd_Model_checkWay_126 (lv_at hl 4 rfl) ?_
    refine lv_iload hx hb dd_Model_checkWay_128 (lv_at hl 5 rfl) ?_
    obtain ⟨a9, u10, hq, h⟩ := xp_seq h
    refine xk_goesI (xr_V (As := [.long (u.2.2.2 1 b4.toNatClampNeg), .int b5, .int b6]) (rest := [.int (u.2.2.1 22 b7.toNatClampNeg), .ref (ad 0), .ref (ad 0)]) C hP hS (ct_Model_typeOf htr hok hq) kq_Model_500 0 11 rfl rfl ⟨rfl, rfl, Nat.le_of_ble_eq_true rfl, Nat.le_of_ble_eq_true rfl⟩ ⟨Nat.le_of_ble_eq_true rfl, Nat.le_of_ble_eq_true rfl⟩ hl.1 rfl rfl (Nat.le_of_ble_eq_true rfl) dd_Model_checkWay_130) hS (fun H locs hP hS => ?_)
    clear hq
    obtain ⟨a11, u12, hq, h⟩ := xp_seq h
    refine xk_goesI (xr_V (As := [.int (u.2.2.1 22 b7.toNatClampNeg), .int a9]) (rest := [.ref (ad 0)]) C hP hS (ct_Model_fits htr hok hq) kq_Model_469 0 11 rfl rfl ⟨rfl, rfl, Nat.le_of_ble_eq_true rfl, Nat.le_of_ble_eq_true rfl⟩ ⟨Nat.le_of_ble_eq_true rfl, Nat.le_of_ble_eq_true rfl⟩ hl.1 rfl rfl (Nat.le_of_ble_eq_true rfl) dd_Model_checkWay_133) hS (fun H locs hP hS => ?_)
    clear hq
    refine lv_if_ne (tgt := 143) hx hb dd_Model_checkWay_136 (by decide) (fun hc => ?_) (fun hc => ?_)
    · have h := xp_f hc h
      refine lv_iconst (v := 0) hx hb dd_Model_checkWay_143 (by decide) ?_
      refine lv_goto (tgt := 166) hx hb dd_Model_checkWay_144 (by decide) ?_
      exact wj_Model_checkWay_166 htr C hne hk57 h hP hS (lv_sub hl [1, 2, 3, 4, 5] rfl)
    · have h := xp_t hc h
      refine lv_iconst (v := 1) hx hb dd_Model_checkWay_139 (by decide) ?_
      refine lv_goto (tgt := 166) hx hb dd_Model_checkWay_140 (by decide) ?_
      exact wj_Model_checkWay_166 htr C hne hk57 h hP hS (lv_sub hl [1, 2, 3, 4, 5] rfl)
set_option maxHeartbeats 4000000 in
set_option maxRecDepth 100000 in
theorem wj_Model_checkWay_57 {p : Program} {l : Launch} {e : Env} {s : State} {m : MethodId} {args : Array Value} {below : List Frame} {meth : Method} {c : Code} {D : va_G} {ad : Nat → Nat} {ca : Nat → ClassId} {ads : List Nat} {fu : Nat} (htr : l.stackTraces = false) (C : xk_C D kx_cl (kx_ty ca) (kw_m ad ca) ads "ModuleHouseModel" prog_14_method_79_code 9 none p e s m args meth c) (hne : c.exceptionTable.isEmpty = true) {u' : xk_St} {r : Unit} : ∀ {n : Nat} {b3 : Int32} {b4 : Int32} {b5 : Int32} {b6 : Int32} {u : xk_St} {H : Heap} {locs : List Loc} {ls : Array Slot} (h : jb_Model_checkWay_57 fu  n b3 b4 b5 b6 u = some (r, u')) (hP : va_P D kx_cl (kw_m ad ca u) H) (hS : va_S (xk_A ads s.heap.size) s.heap H locs) (hl : lv_has ls 9 [(0, .ref (ad 0)), (3, .int b3), (4, .int b4), (5, .int b5), (6, .int b6)]), W p l e rm_Model_checkWay s m args below meth c H locs 0 0 (xk_MQ below (xk_Qc D kx_cl (kw_m ad ca) ads (xo_v (.inl r)) u') args s (xk_A ads s.heap.size)) (F0 m 57 ls []) := by
  intro n
  have hx := C.1.1
  have hb := C.1.2.1
  have hok := C.2.2.1
  induction n with
  | zero =>
    intro _ _ _ _ u H locs ls h
    have h : none = some (r, u') := h
    cases h
  | succ n ih =>
    intro b3 b4 b5 b6 u H locs ls h hP hS hl
    unfold jb_Model_checkWay_57 at h
    obtain ⟨k57, ek57, h⟩ := xp_let h
    have hk57 : ∀ (c0 : Int32) (c1 : Int32) (c2 : Int32) (c3 : Int32) (u : xk_St) (H : Heap) (locs : List Loc) (ls : Array Slot), k57 c0 c1 c2 c3 u = some (r, u') → va_P D kx_cl (kw_m ad ca u) H → va_S (xk_A ads s.heap.size) s.heap H locs → lv_has ls 9 [(0, .ref (ad 0)), (3, .int c0), (4, .int c1), (5, .int c2), (6, .int c3)] → W p l e rm_Model_checkWay s m args below meth c H locs 0 0 (xk_MQ below (xk_Qc D kx_cl (kw_m ad ca) ads (xo_v (.inl r)) u') args s (xk_A ads s.heap.size)) (F0 m 57 ls []) := by
      intro c0 c1 c2 c3 u H locs ls h hP hS hl
      subst ek57
      exact ih h hP hS hl
    clear ih ek57
    refine lv_iload hx hb dd_Model_checkWay_57 (lv_at hl 4 rfl) ?_
    refine lv_iload_n hx hb dd_Model_checkWay_59 rfl (lv_at hl 1 rfl) ?_
    refine lv_icmp_ge (tgt := 175) hx hb dd_Model_checkWay_60 (by decide) (fun hc => ?_) (fun hc => ?_)
    · have h := xp_t hc h
      obtain ⟨rfl, rfl⟩ := xp_r h
      exact xr_vret C hP hS dd_Model_checkWay_175
    · have h := xp_f hc h
      refine lv_aload_n hx hb dd_Model_checkWay_63 rfl (lv_at hl 0 rfl) ?_
      refine gf_m_Model_0_wrong C hP dd_Model_checkWay_64 ?_
      refine lv_if_ne (tgt := 175) hx hb dd_Model_checkWay_67 (by decide) (fun hc => ?_) (fun hc => ?_)
      · have h := xp_f hc h
        obtain ⟨rfl, rfl⟩ := xp_r h
        exact xr_vret C hP hS dd_Model_checkWay_175
      · have h := xp_t hc h
        refine lv_aload_n hx hb dd_Model_checkWay_70 rfl (lv_at hl 0 rfl) ?_
        refine gf_m_Model_0_high C hP dd_Model_checkWay_71 ?_
        refine lv_iload_n hx hb dd_Model_checkWay_74 rfl (lv_at hl 1 rfl) ?_
        refine lv_isub hx hb dd_Model_checkWay_75 ?_
        refine lv_iload hx hb dd_Model_checkWay_76 (lv_at hl 4 rfl) ?_
        refine lv_iadd hx hb dd_Model_checkWay_78 ?_
        obtain ⟨a6, ea6, h⟩ := xp_let h
        refine xr_nami ea6 ?_
        refine lv_istore (lv' := [(7, .int a6), (0, .ref (ad 0)), (3, .int b3), (4, .int b4), (5, .int b5), (6, .int b6)]) hx hb dd_Model_checkWay_79 hl (by decide) rfl (fun ls hl => ?_)
        refine lv_iload hx hb dd_Model_checkWay_81 (lv_at hl 0 rfl) ?_
        refine lv_aload_n hx hb dd_Model_checkWay_83 rfl (lv_at hl 1 rfl) ?_
        refine gf_m_Model_0_blockBase C hP dd_Model_checkWay_84 ?_
        refine lv_aload_n hx hb dd_Model_checkWay_87 rfl (lv_at hl 1 rfl) ?_
        refine gf_m_Model_0_blocks C hP dd_Model_checkWay_88 ?_
        refine lv_iconst (v := 1) hx hb dd_Model_checkWay_91 (by decide) ?_
        refine lv_isub hx hb dd_Model_checkWay_92 ?_
        obtain ⟨hi, h⟩ := xp_g h
        refine al_m_28 C hP hi dd_Model_checkWay_93 ?_
        refine lv_icmp_lt (tgt := 101) hx hb dd_Model_checkWay_94 (by decide) (fun hc => ?_) (fun hc => ?_)
        · have h := xp_t hc h
          refine lv_iconst (v := 0) hx hb dd_Model_checkWay_101 (by decide) ?_
          exact wj_Model_checkWay_102 htr C hne hk57 h hP hS (lv_sub hl [1, 2, 3, 4, 5, 0] rfl)
        · have h := xp_f hc h
          refine lv_iconst (v := 1) hx hb dd_Model_checkWay_97 (by decide) ?_
          refine lv_goto (tgt := 102) hx hb dd_Model_checkWay_98 (by decide) ?_
          exact wj_Model_checkWay_102 htr C hne hk57 h hP hS (lv_sub hl [1, 2, 3, 4, 5, 0] rfl)
set_option maxHeartbeats 4000000 in
set_option maxRecDepth 100000 in
theorem wj_Model_checkWay_51 {p : Program} {l : Launch} {e : Env} {s : State} {m : MethodId} {args : Array Value} {below : List Frame} {meth : Method} {c : Code} {D : va_G} {ad : Nat → Nat} {ca : Nat → ClassId} {ads : List Nat} {fu : Nat} (htr : l.stackTraces = false) (C : xk_C D kx_cl (kx_ty ca) (kw_m ad ca) ads "ModuleHouseModel" prog_14_method_79_code 9 none p e s m args meth c) (hne : c.exceptionTable.isEmpty = true) {u' : xk_St} {r : Unit} {b3 : Int32} {b4 : Int32} {b5 : Int32} {s0 : Int32} {u : xk_St} {H : Heap} {locs : List Loc} {ls : Array Slot} (h : jb_Model_checkWay_51 fu  b3 b4 b5 s0 u = some (r, u')) (hP : va_P D kx_cl (kw_m ad ca u) H) (hS : va_S (xk_A ads s.heap.size) s.heap H locs) (hl : lv_has ls 9 [(0, .ref (ad 0)), (3, .int b3), (4, .int b4), (5, .int b5)]) : W p l e rm_Model_checkWay s m args below meth c H locs 0 0 (xk_MQ below (xk_Qc D kx_cl (kw_m ad ca) ads (xo_v (.inl r)) u') args s (xk_A ads s.heap.size)) (F0 m 51 ls [.int s0, .ref (ad 0)]) := by
  have hx := C.1.1
  have hb := C.1.2.1
  have hok := C.2.2.1
  unfold jb_Model_checkWay_51 at h
  obtain ⟨hz, h⟩ := xp_p h
  refine pf_m_Model_0_wrong C hP hS hz dd_Model_checkWay_51 (fun H locs hP hS => ?_)
  obtain ⟨u5, eu5, h⟩ := xp_let h
  rw [← eu5] at hP
  refine lv_iconst (v := 0) hx hb dd_Model_checkWay_54 (by decide) ?_
  refine lv_istore (lv' := [(6, .int (0 : Int32)), (0, .ref (ad 0)), (3, .int b3), (4, .int b4), (5, .int b5)]) hx hb dd_Model_checkWay_55 hl (by decide) rfl (fun ls hl => ?_)
  exact wj_Model_checkWay_57 htr C hne h hP hS (lv_sub hl [1, 2, 3, 4, 0] rfl)
set_option maxHeartbeats 4000000 in
set_option maxRecDepth 100000 in
theorem wj_Model_checkWay_46 {p : Program} {l : Launch} {e : Env} {s : State} {m : MethodId} {args : Array Value} {below : List Frame} {meth : Method} {c : Code} {D : va_G} {ad : Nat → Nat} {ca : Nat → ClassId} {ads : List Nat} {fu : Nat} (htr : l.stackTraces = false) (C : xk_C D kx_cl (kx_ty ca) (kw_m ad ca) ads "ModuleHouseModel" prog_14_method_79_code 9 none p e s m args meth c) (hne : c.exceptionTable.isEmpty = true) {u' : xk_St} {r : Unit} {b3 : Int32} {b4 : Int32} {b5 : Int32} {u : xk_St} {H : Heap} {locs : List Loc} {ls : Array Slot} (h : jb_Model_checkWay_46 fu  b3 b4 b5 u = some (r, u')) (hP : va_P D kx_cl (kw_m ad ca u) H) (hS : va_S (xk_A ads s.heap.size) s.heap H locs) (hl : lv_has ls 9 [(0, .ref (ad 0)), (3, .int b3), (4, .int b4), (5, .int b5)]) : W p l e rm_Model_checkWay s m args below meth c H locs 0 0 (xk_MQ below (xk_Qc D kx_cl (kw_m ad ca) ads (xo_v (.inl r)) u') args s (xk_A ads s.heap.size)) (F0 m 46 ls [.ref (ad 0)]) := by
  have hx := C.1.1
  have hb := C.1.2.1
  have hok := C.2.2.1
  unfold jb_Model_checkWay_46 at h
  refine lv_iconst (v := 1) hx hb dd_Model_checkWay_46 (by decide) ?_
  refine lv_goto (tgt := 51) hx hb dd_Model_checkWay_47 (by decide) ?_
  exact wj_Model_checkWay_51 htr C hne h hP hS (lv_sub hl [0, 1, 2, 3] rfl)
set_option maxHeartbeats 4000000 in
set_option maxRecDepth 100000 in
theorem ct_Model_checkWay {l : Launch} {D : va_G} {ad : Nat → Nat} {ca : Nat → ClassId} {ads : List Nat} (htr : l.stackTraces = false) (hok : xk_ok (kw_m ad ca) ads) {fu : Nat} {x0 : Int64} {x1 : Int32} {u u' : xk_St} {r : Unit} (h : fm_Model_checkWay fu x0 x1 u = some (r, u')) :
    ∀ sz, xk_Met l ⟨"ModuleHouseModel", "checkWay", "(JI)V"⟩ (Cond.code ⟨"ModuleHouseModel", "checkWay", "(JI)V"⟩ prog_14_method_79_code 9 none :: xk_gd) rm_Model_checkWay (xk_Pc D kx_cl (kx_ty ca) (kw_m ad ca) ads xk_F sz [.ref (ad 0), .long x0, .int x1] u) (xk_Qc D kx_cl (kw_m ad ca) ads (xo_v (.inl r)) u') (xk_A ads sz) := by
  unfold fm_Model_checkWay at h
  refine xk_con (by decide) htr hok (Nat.le_of_ble_eq_true rfl) (fun p e s m below meth c ls C hne hl hP => ?_)
  have hx := C.1.1
  have hb := C.1.2.1
  have hS : va_S (xk_A ads s.heap.size) s.heap s.heap [] := va_S.rf
  have hl : lv_has ls 9 [(0, .ref (ad 0)), (1, .long x0), (3, .int x1)] := hl
  refine lv_aload_n hx hb dd_Model_checkWay_0 rfl (lv_at hl 0 rfl) ?_
  refine lv_lload_n hx hb dd_Model_checkWay_1 rfl (lv_at hl 1 rfl) ?_
  obtain ⟨a1, u2, hq, h⟩ := xp_seq h
  refine xk_goesI (xr_V (As := [.long x0]) (rest := []) C hP hS (ct_Model_out htr hok hq) kq_Model_554 0 11 rfl rfl ⟨rfl, rfl, Nat.le_of_ble_eq_true rfl, Nat.le_of_ble_eq_true rfl⟩ ⟨Nat.le_of_ble_eq_true rfl, Nat.le_of_ble_eq_true rfl⟩ hl.1 rfl rfl (Nat.le_of_ble_eq_true rfl) dd_Model_checkWay_2) hS (fun H locs hP hS => ?_)
  clear hq
  refine lv_istore (lv' := [(4, .int a1), (0, .ref (ad 0)), (1, .long x0), (3, .int x1)]) hx hb dd_Model_checkWay_5 hl (by decide) rfl (fun ls hl => ?_)
  refine lv_iload hx hb dd_Model_checkWay_7 (lv_at hl 0 rfl) ?_
  refine lv_if_ge (tgt := 13) hx hb dd_Model_checkWay_9 (by decide) (fun hc => ?_) (fun hc => ?_)
  · have h := xp_t hc h
    refine lv_aload_n hx hb dd_Model_checkWay_13 rfl (lv_at hl 1 rfl) ?_
    refine lv_iload hx hb dd_Model_checkWay_14 (lv_at hl 0 rfl) ?_
    obtain ⟨a3, u4, hq, h⟩ := xp_seq h
    refine xk_goesI (xr_V (As := [.int a1]) (rest := []) C hP hS (ct_Model_leadsToResults htr hok hq) kq_Model_513 0 11 rfl rfl ⟨rfl, rfl, Nat.le_of_ble_eq_true rfl, Nat.le_of_ble_eq_true rfl⟩ ⟨Nat.le_of_ble_eq_true rfl, Nat.le_of_ble_eq_true rfl⟩ hl.1 rfl rfl (Nat.le_of_ble_eq_true rfl) dd_Model_checkWay_16) hS (fun H locs hP hS => ?_)
    clear hq
    refine lv_istore (lv' := [(5, .int a3), (4, .int a1), (0, .ref (ad 0)), (1, .long x0), (3, .int x1)]) hx hb dd_Model_checkWay_19 hl (by decide) rfl (fun ls hl => ?_)
    refine lv_aload_n hx hb dd_Model_checkWay_21 rfl (lv_at hl 2 rfl) ?_
    refine lv_aload_n hx hb dd_Model_checkWay_22 rfl (lv_at hl 2 rfl) ?_
    refine gf_m_Model_0_wrong C hP dd_Model_checkWay_23 ?_
    refine lv_if_ne (tgt := 46) hx hb dd_Model_checkWay_26 (by decide) (fun hc => ?_) (fun hc => ?_)
    · have h := xp_f hc h
      exact wj_Model_checkWay_46 htr C hne h hP hS (lv_sub hl [2, 4, 1, 0] rfl)
    · have h := xp_t hc h
      refine lv_aload_n hx hb dd_Model_checkWay_29 rfl (lv_at hl 2 rfl) ?_
      refine lv_aload_n hx hb dd_Model_checkWay_30 rfl (lv_at hl 2 rfl) ?_
      refine gf_m_Model_0_blockType C hP dd_Model_checkWay_31 ?_
      refine lv_iload hx hb dd_Model_checkWay_34 (lv_at hl 1 rfl) ?_
      obtain ⟨hi, h⟩ := xp_g h
      refine al_m_27 C hP hi dd_Model_checkWay_36 ?_
      refine lv_iload hx hb dd_Model_checkWay_37 (lv_at hl 0 rfl) ?_
      obtain ⟨a13, u14, hq, h⟩ := xp_seq h
      refine xk_goesI (xr_V (As := [.long (u4.2.2.2 1 a1.toNatClampNeg), .int a3]) (rest := [.ref (ad 0)]) C hP hS (ct_Model_countOf htr hok hq) kq_Model_496 0 11 rfl rfl ⟨rfl, rfl, Nat.le_of_ble_eq_true rfl, Nat.le_of_ble_eq_true rfl⟩ ⟨Nat.le_of_ble_eq_true rfl, Nat.le_of_ble_eq_true rfl⟩ hl.1 rfl rfl (Nat.le_of_ble_eq_true rfl) dd_Model_checkWay_39) hS (fun H locs hP hS => ?_)
      clear hq
      refine lv_iload_n hx hb dd_Model_checkWay_42 rfl (lv_at hl 4 rfl) ?_
      refine lv_icmp_eq (tgt := 50) hx hb dd_Model_checkWay_43 (by decide) (fun hc => ?_) (fun hc => ?_)
      · have h := xp_t hc h
        refine lv_iconst (v := 0) hx hb dd_Model_checkWay_50 (by decide) ?_
        exact wj_Model_checkWay_51 htr C hne h hP hS (lv_sub hl [2, 4, 1, 0] rfl)
      · have h := xp_f hc h
        exact wj_Model_checkWay_46 htr C hne h hP hS (lv_sub hl [2, 4, 1, 0] rfl)
  · have h := xp_f hc h
    obtain ⟨rfl, rfl⟩ := xp_r h
    exact xr_vret C hP hS dd_Model_checkWay_12
abbrev rm_Model_checkTable : Room := { frames := 6, cells := 1, slots := 6, locals := 110 }
noncomputable def jb_Model_checkTable_87 (fu : Nat) (b1 : Int64) (b3 : Int32) (b4 : Int32) (b5 : Int32) (u : xk_St) : Option (Unit × xk_St) :=
  (xs_let (xs_I u 4 b5) fun u11 => xs_seq (fm_Model_checkWay fu b1 b4 u11) fun _ u12 => xs_seq (fm_Model_takeEnd fu b3 u12) fun _ u13 => xs_seq (fm_Model_unreachable u13) fun _ u14 => some ((()), u14))
noncomputable def jb_Model_checkTable_55 (fu : Nat) : Nat → Int64 → Int32 → Int32 → Int32 → Int32 → xk_St → Option (Unit × xk_St)
  | 0 => fun _ _ _ _ _ _ => none
  | n + 1 => fun b1 b3 b4 b5 b6 u =>
    xs_let (jb_Model_checkTable_55 fu  n) fun k55 =>
    if (u.1 11) ≤ b6 then (jb_Model_checkTable_87 fu b1 b3 b4 b5 u) else (if (u.1 7) = (0 : Int32) then ((xs_seq (fm_Model_number fu u) fun a15 u16 => xs_seq (fm_Model_checkWay fu a15 b4 u16) fun _ u17 => xs_let (b6 + (1 : Int32)) fun a18 => k55 b1 b3 b4 b5 a18 u17)) else (jb_Model_checkTable_87 fu b1 b3 b4 b5 u))
noncomputable def fm_Model_checkTable (fu : Nat) (u : xk_St) : Option (Unit × xk_St) :=
  (xs_seq (fm_Model_take (1 : Int32) u) fun _ u1 => xs_let (u1.2.1 0) fun a2 => xs_seq (fm_Model_out a2 u1) fun a3 u4 => if (0 : Int32) ≤ a3 then ((if a3 < 0 ∨ 101 ≤ a3.toNatClampNeg then none else xs_seq (fm_Model_leadsToResults a3 u4) fun a5 u6 => xs_seq (fm_Model_countOf (u4.2.2.2 1 a3.toNatClampNeg) a5 u6) fun a7 u8 => xs_let (u8.1 4) fun a9 => xs_let (xs_I u8 4 (u8.1 10)) fun u10 => jb_Model_checkTable_55 fu fu a2 a3 a7 a9 (0 : Int32) u10)) else (some ((()), u4)))
set_option maxHeartbeats 4000000 in
set_option maxRecDepth 100000 in
theorem wj_Model_checkTable_87 {p : Program} {l : Launch} {e : Env} {s : State} {m : MethodId} {args : Array Value} {below : List Frame} {meth : Method} {c : Code} {D : va_G} {ad : Nat → Nat} {ca : Nat → ClassId} {ads : List Nat} {fu : Nat} (htr : l.stackTraces = false) (C : xk_C D kx_cl (kx_ty ca) (kw_m ad ca) ads "ModuleHouseModel" prog_14_method_80_code 7 none p e s m args meth c) (hne : c.exceptionTable.isEmpty = true) {u' : xk_St} {r : Unit} {b1 : Int64} {b3 : Int32} {b4 : Int32} {b5 : Int32} {u : xk_St} {H : Heap} {locs : List Loc} {ls : Array Slot} (h : jb_Model_checkTable_87 fu  b1 b3 b4 b5 u = some (r, u')) (hP : va_P D kx_cl (kw_m ad ca u) H) (hS : va_S (xk_A ads s.heap.size) s.heap H locs) (hl : lv_has ls 7 [(0, .ref (ad 0)), (1, .long b1), (3, .int b3), (4, .int b4), (5, .int b5)]) : W p l e rm_Model_checkTable s m args below meth c H locs 0 0 (xk_MQ below (xk_Qc D kx_cl (kw_m ad ca) ads (xo_v (.inl r)) u') args s (xk_A ads s.heap.size)) (F0 m 87 ls []) := by
  have hx := C.1.1
  have hb := C.1.2.1
  have hok := C.2.2.1
  unfold jb_Model_checkTable_87 at h
  refine lv_aload_n hx hb dd_Model_checkTable_87 rfl (lv_at hl 0 rfl) ?_
  refine lv_iload hx hb dd_Model_checkTable_88 (lv_at hl 4 rfl) ?_
  refine pf_m_Model_0_at C hP hS dd_Model_checkTable_90 (fun H locs hP hS => ?_)
  obtain ⟨u11, eu11, h⟩ := xp_let h
  rw [← eu11] at hP
  refine lv_aload_n hx hb dd_Model_checkTable_93 rfl (lv_at hl 0 rfl) ?_
  refine lv_lload_n hx hb dd_Model_checkTable_94 rfl (lv_at hl 1 rfl) ?_
  refine lv_iload hx hb dd_Model_checkTable_95 (lv_at hl 3 rfl) ?_
  obtain ⟨rx, u12, hq, h⟩ := xp_seq h
  refine xk_goesV (xr_V (As := [.long b1, .int b4]) (rest := []) C hP hS (ct_Model_checkWay htr hok hq) kq_Model_558 0 11 rfl rfl ⟨rfl, rfl, Nat.le_of_ble_eq_true rfl, Nat.le_of_ble_eq_true rfl⟩ ⟨Nat.le_of_ble_eq_true rfl, Nat.le_of_ble_eq_true rfl⟩ hl.1 rfl rfl (Nat.le_of_ble_eq_true rfl) dd_Model_checkTable_97) hS (fun H locs hP hS => ?_)
  clear hq
  refine lv_aload_n hx hb dd_Model_checkTable_100 rfl (lv_at hl 0 rfl) ?_
  refine lv_iload_n hx hb dd_Model_checkTable_101 rfl (lv_at hl 2 rfl) ?_
  obtain ⟨rx, u13, hq, h⟩ := xp_seq h
  refine xk_goesV (xr_V (As := [.int b3]) (rest := []) C hP hS (ct_Model_takeEnd htr hok hq) kq_Model_562 0 11 rfl rfl ⟨rfl, rfl, Nat.le_of_ble_eq_true rfl, Nat.le_of_ble_eq_true rfl⟩ ⟨Nat.le_of_ble_eq_true rfl, Nat.le_of_ble_eq_true rfl⟩ hl.1 rfl rfl (Nat.le_of_ble_eq_true rfl) dd_Model_checkTable_102) hS (fun H locs hP hS => ?_)
  clear hq
  refine lv_aload_n hx hb dd_Model_checkTable_105 rfl (lv_at hl 0 rfl) ?_
  obtain ⟨rx, u14, hq, h⟩ := xp_seq h
  refine xk_goesV (xr_V (As := []) (rest := []) C hP hS (ct_Model_unreachable htr hok hq) kq_Model_565 0 11 rfl rfl ⟨rfl, rfl, Nat.le_of_ble_eq_true rfl, Nat.le_of_ble_eq_true rfl⟩ ⟨Nat.le_of_ble_eq_true rfl, Nat.le_of_ble_eq_true rfl⟩ hl.1 rfl rfl (Nat.le_of_ble_eq_true rfl) dd_Model_checkTable_106) hS (fun H locs hP hS => ?_)
  clear hq
  obtain ⟨rfl, rfl⟩ := xp_r h
  exact xr_vret C hP hS dd_Model_checkTable_109
set_option maxHeartbeats 4000000 in
set_option maxRecDepth 100000 in
theorem wj_Model_checkTable_55 {p : Program} {l : Launch} {e : Env} {s : State} {m : MethodId} {args : Array Value} {below : List Frame} {meth : Method} {c : Code} {D : va_G} {ad : Nat → Nat} {ca : Nat → ClassId} {ads : List Nat} {fu : Nat} (htr : l.stackTraces = false) (C : xk_C D kx_cl (kx_ty ca) (kw_m ad ca) ads "ModuleHouseModel" prog_14_method_80_code 7 none p e s m args meth c) (hne : c.exceptionTable.isEmpty = true) {u' : xk_St} {r : Unit} : ∀ {n : Nat} {b1 : Int64} {b3 : Int32} {b4 : Int32} {b5 : Int32} {b6 : Int32} {u : xk_St} {H : Heap} {locs : List Loc} {ls : Array Slot} (h : jb_Model_checkTable_55 fu  n b1 b3 b4 b5 b6 u = some (r, u')) (hP : va_P D kx_cl (kw_m ad ca u) H) (hS : va_S (xk_A ads s.heap.size) s.heap H locs) (hl : lv_has ls 7 [(0, .ref (ad 0)), (1, .long b1), (3, .int b3), (4, .int b4), (5, .int b5), (6, .int b6)]), W p l e rm_Model_checkTable s m args below meth c H locs 0 0 (xk_MQ below (xk_Qc D kx_cl (kw_m ad ca) ads (xo_v (.inl r)) u') args s (xk_A ads s.heap.size)) (F0 m 55 ls []) := by
  intro n
  have hx := C.1.1
  have hb := C.1.2.1
  have hok := C.2.2.1
  induction n with
  | zero =>
    intro _ _ _ _ _ u H locs ls h
    have h : none = some (r, u') := h
    cases h
  | succ n ih =>
    intro b1 b3 b4 b5 b6 u H locs ls h hP hS hl
    unfold jb_Model_checkTable_55 at h
    obtain ⟨k55, ek55, h⟩ := xp_let h
    have hk55 : ∀ (c0 : Int64) (c1 : Int32) (c2 : Int32) (c3 : Int32) (c4 : Int32) (u : xk_St) (H : Heap) (locs : List Loc) (ls : Array Slot), k55 c0 c1 c2 c3 c4 u = some (r, u') → va_P D kx_cl (kw_m ad ca u) H → va_S (xk_A ads s.heap.size) s.heap H locs → lv_has ls 7 [(0, .ref (ad 0)), (1, .long c0), (3, .int c1), (4, .int c2), (5, .int c3), (6, .int c4)] → W p l e rm_Model_checkTable s m args below meth c H locs 0 0 (xk_MQ below (xk_Qc D kx_cl (kw_m ad ca) ads (xo_v (.inl r)) u') args s (xk_A ads s.heap.size)) (F0 m 55 ls []) := by
      intro c0 c1 c2 c3 c4 u H locs ls h hP hS hl
      subst ek55
      exact ih h hP hS hl
    clear ih ek55
    refine lv_iload hx hb dd_Model_checkTable_55 (lv_at hl 5 rfl) ?_
    refine lv_aload_n hx hb dd_Model_checkTable_57 rfl (lv_at hl 0 rfl) ?_
    refine gf_m_Model_0_rowMany C hP dd_Model_checkTable_58 ?_
    refine lv_icmp_ge (tgt := 87) hx hb dd_Model_checkTable_61 (by decide) (fun hc => ?_) (fun hc => ?_)
    · have h := xp_t hc h
      exact wj_Model_checkTable_87 htr C hne h hP hS (lv_sub hl [0, 1, 2, 3, 4] rfl)
    · have h := xp_f hc h
      refine lv_aload_n hx hb dd_Model_checkTable_64 rfl (lv_at hl 0 rfl) ?_
      refine gf_m_Model_0_wrong C hP dd_Model_checkTable_65 ?_
      refine lv_if_ne (tgt := 87) hx hb dd_Model_checkTable_68 (by decide) (fun hc => ?_) (fun hc => ?_)
      · have h := xp_f hc h
        exact wj_Model_checkTable_87 htr C hne h hP hS (lv_sub hl [0, 1, 2, 3, 4] rfl)
      · have h := xp_t hc h
        refine lv_aload_n hx hb dd_Model_checkTable_71 rfl (lv_at hl 0 rfl) ?_
        refine lv_aload_n hx hb dd_Model_checkTable_72 rfl (lv_at hl 0 rfl) ?_
        obtain ⟨a15, u16, hq, h⟩ := xp_seq h
        refine xk_goesL (xr_V (As := []) (rest := [.ref (ad 0)]) C hP hS (ct_Model_number htr hok hq) kq_Model_295 0 11 rfl rfl ⟨rfl, rfl, Nat.le_of_ble_eq_true rfl, Nat.le_of_ble_eq_true rfl⟩ ⟨Nat.le_of_ble_eq_true rfl, Nat.le_of_ble_eq_true rfl⟩ hl.1 rfl rfl (Nat.le_of_ble_eq_true rfl) dd_Model_checkTable_73) hS (fun H locs hP hS => ?_)
        clear hq
        refine lv_iload hx hb dd_Model_checkTable_76 (lv_at hl 3 rfl) ?_
        obtain ⟨rx, u17, hq, h⟩ := xp_seq h
        refine xk_goesV (xr_V (As := [.long a15, .int b4]) (rest := []) C hP hS (ct_Model_checkWay htr hok hq) kq_Model_558 0 11 rfl rfl ⟨rfl, rfl, Nat.le_of_ble_eq_true rfl, Nat.le_of_ble_eq_true rfl⟩ ⟨Nat.le_of_ble_eq_true rfl, Nat.le_of_ble_eq_true rfl⟩ hl.1 rfl rfl (Nat.le_of_ble_eq_true rfl) dd_Model_checkTable_78) hS (fun H locs hP hS => ?_)
        clear hq
        obtain ⟨a18, ea18, h⟩ := xp_let h
        refine lv_iinc (v := a18) (lv' := [(6, .int a18), (0, .ref (ad 0)), (1, .long b1), (3, .int b3), (4, .int b4), (5, .int b5)]) hx hb dd_Model_checkTable_81 hl (k := 5) rfl (by rw [ea18]; first | rfl | decide) (by decide) rfl (fun ls hl => ?_)
        refine lv_goto (tgt := 55) hx hb dd_Model_checkTable_84 (by decide) ?_
        exact hk55 b1 b3 b4 b5 a18 u17 _ _ _ h hP hS (lv_sub hl [1, 2, 3, 4, 5, 0] rfl)
set_option maxHeartbeats 4000000 in
set_option maxRecDepth 100000 in
theorem ct_Model_checkTable {l : Launch} {D : va_G} {ad : Nat → Nat} {ca : Nat → ClassId} {ads : List Nat} (htr : l.stackTraces = false) (hok : xk_ok (kw_m ad ca) ads) {fu : Nat} {u u' : xk_St} {r : Unit} (h : fm_Model_checkTable fu u = some (r, u')) :
    ∀ sz, xk_Met l ⟨"ModuleHouseModel", "checkTable", "()V"⟩ (Cond.code ⟨"ModuleHouseModel", "checkTable", "()V"⟩ prog_14_method_80_code 7 none :: xk_gd) rm_Model_checkTable (xk_Pc D kx_cl (kx_ty ca) (kw_m ad ca) ads xk_F sz [.ref (ad 0)] u) (xk_Qc D kx_cl (kw_m ad ca) ads (xo_v (.inl r)) u') (xk_A ads sz) := by
  unfold fm_Model_checkTable at h
  refine xk_con (by decide) htr hok (Nat.le_of_ble_eq_true rfl) (fun p e s m below meth c ls C hne hl hP => ?_)
  have hx := C.1.1
  have hb := C.1.2.1
  have hS : va_S (xk_A ads s.heap.size) s.heap s.heap [] := va_S.rf
  have hl : lv_has ls 7 [(0, .ref (ad 0))] := hl
  refine lv_aload_n hx hb dd_Model_checkTable_0 rfl (lv_at hl 0 rfl) ?_
  refine lv_iconst (v := 1) hx hb dd_Model_checkTable_1 (by decide) ?_
  obtain ⟨rx, u1, hq, h⟩ := xp_seq h
  refine xk_goesV (xr_V (As := [.int (1 : Int32)]) (rest := []) C hP hS (ct_Model_take htr hok hq) kq_Model_504 0 11 rfl rfl ⟨rfl, rfl, Nat.le_of_ble_eq_true rfl, Nat.le_of_ble_eq_true rfl⟩ ⟨Nat.le_of_ble_eq_true rfl, Nat.le_of_ble_eq_true rfl⟩ hl.1 rfl rfl (Nat.le_of_ble_eq_true rfl) dd_Model_checkTable_2) hS (fun H locs hP hS => ?_)
  clear hq
  refine lv_aload_n hx hb dd_Model_checkTable_5 rfl (lv_at hl 0 rfl) ?_
  refine gf_m_Model_0_x C hP dd_Model_checkTable_6 ?_
  obtain ⟨a2, ea2, h⟩ := xp_let h
  refine xr_naml ea2 ?_
  refine lv_lstore_n (lv' := [(1, .long a2), (0, .ref (ad 0))]) hx hb dd_Model_checkTable_9 rfl hl (by decide) rfl (fun ls hl => ?_)
  refine lv_aload_n hx hb dd_Model_checkTable_10 rfl (lv_at hl 1 rfl) ?_
  refine lv_lload_n hx hb dd_Model_checkTable_11 rfl (lv_at hl 0 rfl) ?_
  obtain ⟨a3, u4, hq, h⟩ := xp_seq h
  refine xk_goesI (xr_V (As := [.long a2]) (rest := []) C hP hS (ct_Model_out htr hok hq) kq_Model_554 0 11 rfl rfl ⟨rfl, rfl, Nat.le_of_ble_eq_true rfl, Nat.le_of_ble_eq_true rfl⟩ ⟨Nat.le_of_ble_eq_true rfl, Nat.le_of_ble_eq_true rfl⟩ hl.1 rfl rfl (Nat.le_of_ble_eq_true rfl) dd_Model_checkTable_12) hS (fun H locs hP hS => ?_)
  clear hq
  refine lv_istore_n (lv' := [(3, .int a3), (1, .long a2), (0, .ref (ad 0))]) hx hb dd_Model_checkTable_15 rfl hl (by decide) rfl (fun ls hl => ?_)
  refine lv_iload_n hx hb dd_Model_checkTable_16 rfl (lv_at hl 0 rfl) ?_
  refine lv_if_ge (tgt := 21) hx hb dd_Model_checkTable_17 (by decide) (fun hc => ?_) (fun hc => ?_)
  · have h := xp_t hc h
    refine lv_aload_n hx hb dd_Model_checkTable_21 rfl (lv_at hl 2 rfl) ?_
    refine lv_aload_n hx hb dd_Model_checkTable_22 rfl (lv_at hl 2 rfl) ?_
    refine gf_m_Model_0_blockType C hP dd_Model_checkTable_23 ?_
    refine lv_iload_n hx hb dd_Model_checkTable_26 rfl (lv_at hl 0 rfl) ?_
    obtain ⟨hi, h⟩ := xp_g h
    refine al_m_27 C hP hi dd_Model_checkTable_27 ?_
    refine lv_aload_n hx hb dd_Model_checkTable_28 rfl (lv_at hl 2 rfl) ?_
    refine lv_iload_n hx hb dd_Model_checkTable_29 rfl (lv_at hl 0 rfl) ?_
    obtain ⟨a5, u6, hq, h⟩ := xp_seq h
    refine xk_goesI (xr_V (As := [.int a3]) (rest := [.long (u4.2.2.2 1 a3.toNatClampNeg), .ref (ad 0)]) C hP hS (ct_Model_leadsToResults htr hok hq) kq_Model_513 0 11 rfl rfl ⟨rfl, rfl, Nat.le_of_ble_eq_true rfl, Nat.le_of_ble_eq_true rfl⟩ ⟨Nat.le_of_ble_eq_true rfl, Nat.le_of_ble_eq_true rfl⟩ hl.1 rfl rfl (Nat.le_of_ble_eq_true rfl) dd_Model_checkTable_30) hS (fun H locs hP hS => ?_)
    clear hq
    obtain ⟨a7, u8, hq, h⟩ := xp_seq h
    refine xk_goesI (xr_V (As := [.long (u4.2.2.2 1 a3.toNatClampNeg), .int a5]) (rest := []) C hP hS (ct_Model_countOf htr hok hq) kq_Model_496 0 11 rfl rfl ⟨rfl, rfl, Nat.le_of_ble_eq_true rfl, Nat.le_of_ble_eq_true rfl⟩ ⟨Nat.le_of_ble_eq_true rfl, Nat.le_of_ble_eq_true rfl⟩ hl.1 rfl rfl (Nat.le_of_ble_eq_true rfl) dd_Model_checkTable_33) hS (fun H locs hP hS => ?_)
    clear hq
    refine lv_istore (lv' := [(4, .int a7), (3, .int a3), (1, .long a2), (0, .ref (ad 0))]) hx hb dd_Model_checkTable_36 hl (by decide) rfl (fun ls hl => ?_)
    refine lv_aload_n hx hb dd_Model_checkTable_38 rfl (lv_at hl 3 rfl) ?_
    refine gf_m_Model_0_at C hP dd_Model_checkTable_39 ?_
    obtain ⟨a9, ea9, h⟩ := xp_let h
    refine xr_nami ea9 ?_
    refine lv_istore (lv' := [(5, .int a9), (4, .int a7), (3, .int a3), (1, .long a2), (0, .ref (ad 0))]) hx hb dd_Model_checkTable_42 hl (by decide) rfl (fun ls hl => ?_)
    refine lv_aload_n hx hb dd_Model_checkTable_44 rfl (lv_at hl 4 rfl) ?_
    refine lv_aload_n hx hb dd_Model_checkTable_45 rfl (lv_at hl 4 rfl) ?_
    refine gf_m_Model_0_rowAt C hP dd_Model_checkTable_46 ?_
    refine pf_m_Model_0_at C hP hS dd_Model_checkTable_49 (fun H locs hP hS => ?_)
    obtain ⟨u10, eu10, h⟩ := xp_let h
    rw [← eu10] at hP
    refine lv_iconst (v := 0) hx hb dd_Model_checkTable_52 (by decide) ?_
    refine lv_istore (lv' := [(6, .int (0 : Int32)), (5, .int a9), (4, .int a7), (3, .int a3), (1, .long a2), (0, .ref (ad 0))]) hx hb dd_Model_checkTable_53 hl (by decide) rfl (fun ls hl => ?_)
    exact wj_Model_checkTable_55 htr C hne h hP hS (lv_sub hl [5, 4, 3, 2, 1, 0] rfl)
  · have h := xp_f hc h
    obtain ⟨rfl, rfl⟩ := xp_r h
    exact xr_vret C hP hS dd_Model_checkTable_20
abbrev rm_Model_checkCall : Room := { frames := 5, cells := 1, slots := 6, locals := 89 }
noncomputable def jb_Model_checkCall_115 (fu : Nat) (s0 : Int32) (u : xk_St) : Option (Unit × xk_St) :=
  (xs_seq (fm_Model_takeAll fu (s0.toInt64) (0 : Int32) u) fun _ u2 => xs_seq (fm_Model_bring fu (s0.toInt64) (1 : Int32) u2) fun _ u3 => some ((()), u3))
noncomputable def jb_Model_checkCall_88 (fu : Nat) (u : xk_St) : Option (Unit × xk_St) :=
  if (u.1 8) = (16 : Int32) then ((if ((u.2.1 0).toInt32) < 0 ∨ 64 ≤ ((u.2.1 0).toInt32).toNatClampNeg then none else jb_Model_checkCall_115 fu (u.2.2.1 9 ((u.2.1 0).toInt32).toNatClampNeg) u)) else (jb_Model_checkCall_115 fu ((u.2.1 0).toInt32) u)
noncomputable def jb_Model_checkCall_63 (fu : Nat) (s0 : Int32) (u : xk_St) : Option (Unit × xk_St) :=
  (if s0 = 0 ∨ s0 = 1 then ( xs_let (xs_I u 7 s0) fun u1 => if (u1.1 7) = (0 : Int32) then (if (u1.1 8) = (17 : Int32) then ((xs_seq (fm_Model_take (1 : Int32) u1) fun _ u4 => jb_Model_checkCall_88 fu u4)) else (jb_Model_checkCall_88 fu u1)) else (some ((()), u1))  ) else none)
noncomputable def jb_Model_checkCall_58 (fu : Nat) (u : xk_St) : Option (Unit × xk_St) :=
  jb_Model_checkCall_63 fu (1 : Int32) u
noncomputable def fm_Model_checkCall (fu : Nat) (u : xk_St) : Option (Unit × xk_St) :=
  if (u.1 8) = (16 : Int32) then (if (u.2.1 0) < ((u.1 13).toInt64) then (jb_Model_checkCall_63 fu (0 : Int32) u) else (jb_Model_checkCall_63 fu (1 : Int32) u)) else (if (u.1 14) = (0 : Int32) then (jb_Model_checkCall_58 fu u) else (if (u.2.1 1) = (0 : Int64) then ((xs_seq (fm_Model_isFunctionType (u.2.1 0) u) fun a5 u6 => if a5 = (0 : Int32) then (jb_Model_checkCall_58 fu u6) else (jb_Model_checkCall_63 fu (0 : Int32) u6))) else (jb_Model_checkCall_58 fu u)))
set_option maxHeartbeats 4000000 in
set_option maxRecDepth 100000 in
theorem wj_Model_checkCall_115 {p : Program} {l : Launch} {e : Env} {s : State} {m : MethodId} {args : Array Value} {below : List Frame} {meth : Method} {c : Code} {D : va_G} {ad : Nat → Nat} {ca : Nat → ClassId} {ads : List Nat} {fu : Nat} (htr : l.stackTraces = false) (C : xk_C D kx_cl (kx_ty ca) (kw_m ad ca) ads "ModuleHouseModel" prog_14_method_82_code 2 none p e s m args meth c) (hne : c.exceptionTable.isEmpty = true) {u' : xk_St} {r : Unit} {s0 : Int32} {u : xk_St} {H : Heap} {locs : List Loc} {ls : Array Slot} (h : jb_Model_checkCall_115 fu  s0 u = some (r, u')) (hP : va_P D kx_cl (kw_m ad ca u) H) (hS : va_S (xk_A ads s.heap.size) s.heap H locs) (hl : lv_has ls 2 [(0, .ref (ad 0))]) : W p l e rm_Model_checkCall s m args below meth c H locs 0 0 (xk_MQ below (xk_Qc D kx_cl (kw_m ad ca) ads (xo_v (.inl r)) u') args s (xk_A ads s.heap.size)) (F0 m 115 ls [.int s0]) := by
  have hx := C.1.1
  have hb := C.1.2.1
  have hok := C.2.2.1
  unfold jb_Model_checkCall_115 at h
  refine lv_istore_n (lv' := [(1, .int s0), (0, .ref (ad 0))]) hx hb dd_Model_checkCall_115 rfl hl (by decide) rfl (fun ls hl => ?_)
  refine lv_aload_n hx hb dd_Model_checkCall_116 rfl (lv_at hl 1 rfl) ?_
  refine lv_iload_n hx hb dd_Model_checkCall_117 rfl (lv_at hl 0 rfl) ?_
  refine lv_i2l hx hb dd_Model_checkCall_118 rfl ?_
  refine lv_iconst (v := 0) hx hb dd_Model_checkCall_119 (by decide) ?_
  obtain ⟨rx, u2, hq, h⟩ := xp_seq h
  refine xk_goesV (xr_V (As := [.long (s0.toInt64), .int (0 : Int32)]) (rest := []) C hP hS (ct_Model_takeAll htr hok hq) kq_Model_516 0 11 rfl rfl ⟨rfl, rfl, Nat.le_of_ble_eq_true rfl, Nat.le_of_ble_eq_true rfl⟩ ⟨Nat.le_of_ble_eq_true rfl, Nat.le_of_ble_eq_true rfl⟩ hl.1 rfl rfl (Nat.le_of_ble_eq_true rfl) dd_Model_checkCall_120) hS (fun H locs hP hS => ?_)
  clear hq
  refine lv_aload_n hx hb dd_Model_checkCall_123 rfl (lv_at hl 1 rfl) ?_
  refine lv_iload_n hx hb dd_Model_checkCall_124 rfl (lv_at hl 0 rfl) ?_
  refine lv_i2l hx hb dd_Model_checkCall_125 rfl ?_
  refine lv_iconst (v := 1) hx hb dd_Model_checkCall_126 (by decide) ?_
  obtain ⟨rx, u3, hq, h⟩ := xp_seq h
  refine xk_goesV (xr_V (As := [.long (s0.toInt64), .int (1 : Int32)]) (rest := []) C hP hS (ct_Model_bring htr hok hq) kq_Model_520 0 11 rfl rfl ⟨rfl, rfl, Nat.le_of_ble_eq_true rfl, Nat.le_of_ble_eq_true rfl⟩ ⟨Nat.le_of_ble_eq_true rfl, Nat.le_of_ble_eq_true rfl⟩ hl.1 rfl rfl (Nat.le_of_ble_eq_true rfl) dd_Model_checkCall_127) hS (fun H locs hP hS => ?_)
  clear hq
  obtain ⟨rfl, rfl⟩ := xp_r h
  exact xr_vret C hP hS dd_Model_checkCall_130
set_option maxHeartbeats 4000000 in
set_option maxRecDepth 100000 in
theorem wj_Model_checkCall_88 {p : Program} {l : Launch} {e : Env} {s : State} {m : MethodId} {args : Array Value} {below : List Frame} {meth : Method} {c : Code} {D : va_G} {ad : Nat → Nat} {ca : Nat → ClassId} {ads : List Nat} {fu : Nat} (htr : l.stackTraces = false) (C : xk_C D kx_cl (kx_ty ca) (kw_m ad ca) ads "ModuleHouseModel" prog_14_method_82_code 2 none p e s m args meth c) (hne : c.exceptionTable.isEmpty = true) {u' : xk_St} {r : Unit} {u : xk_St} {H : Heap} {locs : List Loc} {ls : Array Slot} (h : jb_Model_checkCall_88 fu   u = some (r, u')) (hP : va_P D kx_cl (kw_m ad ca u) H) (hS : va_S (xk_A ads s.heap.size) s.heap H locs) (hl : lv_has ls 2 [(0, .ref (ad 0))]) : W p l e rm_Model_checkCall s m args below meth c H locs 0 0 (xk_MQ below (xk_Qc D kx_cl (kw_m ad ca) ads (xo_v (.inl r)) u') args s (xk_A ads s.heap.size)) (F0 m 88 ls []) := by
  have hx := C.1.1
  have hb := C.1.2.1
  have hok := C.2.2.1
  unfold jb_Model_checkCall_88 at h
  refine lv_aload_n hx hb dd_Model_checkCall_88 rfl (lv_at hl 0 rfl) ?_
  refine gf_m_Model_0_op C hP dd_Model_checkCall_89 ?_
  refine lv_bipush (v := 16) hx hb dd_Model_checkCall_92 (by decide) ?_
  refine lv_icmp_ne (tgt := 110) hx hb dd_Model_checkCall_94 (by decide) (fun hc => ?_) (fun hc => ?_)
  · have h := xp_f hc h
    refine lv_aload_n hx hb dd_Model_checkCall_110 rfl (lv_at hl 0 rfl) ?_
    refine gf_m_Model_0_x C hP dd_Model_checkCall_111 ?_
    refine lv_l2i hx hb dd_Model_checkCall_114 rfl ?_
    exact wj_Model_checkCall_115 htr C hne h hP hS (lv_sub hl [0] rfl)
  · have h := xp_t hc h
    refine lv_aload_n hx hb dd_Model_checkCall_97 rfl (lv_at hl 0 rfl) ?_
    refine gf_m_Model_0_functionType C hP dd_Model_checkCall_98 ?_
    refine lv_aload_n hx hb dd_Model_checkCall_101 rfl (lv_at hl 0 rfl) ?_
    refine gf_m_Model_0_x C hP dd_Model_checkCall_102 ?_
    refine lv_l2i hx hb dd_Model_checkCall_105 rfl ?_
    obtain ⟨hi, h⟩ := xp_g h
    refine al_m_11 C hP hi dd_Model_checkCall_106 ?_
    refine lv_goto (tgt := 115) hx hb dd_Model_checkCall_107 (by decide) ?_
    exact wj_Model_checkCall_115 htr C hne h hP hS (lv_sub hl [0] rfl)
set_option maxHeartbeats 4000000 in
set_option maxRecDepth 100000 in
theorem wj_Model_checkCall_63 {p : Program} {l : Launch} {e : Env} {s : State} {m : MethodId} {args : Array Value} {below : List Frame} {meth : Method} {c : Code} {D : va_G} {ad : Nat → Nat} {ca : Nat → ClassId} {ads : List Nat} {fu : Nat} (htr : l.stackTraces = false) (C : xk_C D kx_cl (kx_ty ca) (kw_m ad ca) ads "ModuleHouseModel" prog_14_method_82_code 2 none p e s m args meth c) (hne : c.exceptionTable.isEmpty = true) {u' : xk_St} {r : Unit} {s0 : Int32} {u : xk_St} {H : Heap} {locs : List Loc} {ls : Array Slot} (h : jb_Model_checkCall_63 fu  s0 u = some (r, u')) (hP : va_P D kx_cl (kw_m ad ca u) H) (hS : va_S (xk_A ads s.heap.size) s.heap H locs) (hl : lv_has ls 2 [(0, .ref (ad 0))]) : W p l e rm_Model_checkCall s m args below meth c H locs 0 0 (xk_MQ below (xk_Qc D kx_cl (kw_m ad ca) ads (xo_v (.inl r)) u') args s (xk_A ads s.heap.size)) (F0 m 63 ls [.int s0, .ref (ad 0)]) := by
  have hx := C.1.1
  have hb := C.1.2.1
  have hok := C.2.2.1
  unfold jb_Model_checkCall_63 at h
  obtain ⟨hz, h⟩ := xp_p h
  refine pf_m_Model_0_wrong C hP hS hz dd_Model_checkCall_63 (fun H locs hP hS => ?_)
  obtain ⟨u1, eu1, h⟩ := xp_let h
  rw [← eu1] at hP
  refine lv_aload_n hx hb dd_Model_checkCall_66 rfl (lv_at hl 0 rfl) ?_
  refine gf_m_Model_0_wrong C hP dd_Model_checkCall_67 ?_
  refine lv_if_eq (tgt := 74) hx hb dd_Model_checkCall_70 (by decide) (fun hc => ?_) (fun hc => ?_)
  · have h := xp_t hc h
    refine lv_aload_n hx hb dd_Model_checkCall_74 rfl (lv_at hl 0 rfl) ?_
    refine gf_m_Model_0_op C hP dd_Model_checkCall_75 ?_
    refine lv_bipush (v := 17) hx hb dd_Model_checkCall_78 (by decide) ?_
    refine lv_icmp_ne (tgt := 88) hx hb dd_Model_checkCall_80 (by decide) (fun hc => ?_) (fun hc => ?_)
    · have h := xp_f hc h
      exact wj_Model_checkCall_88 htr C hne h hP hS (lv_sub hl [0] rfl)
    · have h := xp_t hc h
      refine lv_aload_n hx hb dd_Model_checkCall_83 rfl (lv_at hl 0 rfl) ?_
      refine lv_iconst (v := 1) hx hb dd_Model_checkCall_84 (by decide) ?_
      obtain ⟨rx, u4, hq, h⟩ := xp_seq h
      refine xk_goesV (xr_V (As := [.int (1 : Int32)]) (rest := []) C hP hS (ct_Model_take htr hok hq) kq_Model_504 0 11 rfl rfl ⟨rfl, rfl, Nat.le_of_ble_eq_true rfl, Nat.le_of_ble_eq_true rfl⟩ ⟨Nat.le_of_ble_eq_true rfl, Nat.le_of_ble_eq_true rfl⟩ hl.1 rfl rfl (Nat.le_of_ble_eq_true rfl) dd_Model_checkCall_85) hS (fun H locs hP hS => ?_)
      clear hq
      exact wj_Model_checkCall_88 htr C hne h hP hS (lv_sub hl [0] rfl)
  · have h := xp_f hc h
    obtain ⟨rfl, rfl⟩ := xp_r h
    exact xr_vret C hP hS dd_Model_checkCall_73
set_option maxHeartbeats 4000000 in
set_option maxRecDepth 100000 in
theorem wj_Model_checkCall_58 {p : Program} {l : Launch} {e : Env} {s : State} {m : MethodId} {args : Array Value} {below : List Frame} {meth : Method} {c : Code} {D : va_G} {ad : Nat → Nat} {ca : Nat → ClassId} {ads : List Nat} {fu : Nat} (htr : l.stackTraces = false) (C : xk_C D kx_cl (kx_ty ca) (kw_m ad ca) ads "ModuleHouseModel" prog_14_method_82_code 2 none p e s m args meth c) (hne : c.exceptionTable.isEmpty = true) {u' : xk_St} {r : Unit} {u : xk_St} {H : Heap} {locs : List Loc} {ls : Array Slot} (h : jb_Model_checkCall_58 fu   u = some (r, u')) (hP : va_P D kx_cl (kw_m ad ca u) H) (hS : va_S (xk_A ads s.heap.size) s.heap H locs) (hl : lv_has ls 2 [(0, .ref (ad 0))]) : W p l e rm_Model_checkCall s m args below meth c H locs 0 0 (xk_MQ below (xk_Qc D kx_cl (kw_m ad ca) ads (xo_v (.inl r)) u') args s (xk_A ads s.heap.size)) (F0 m 58 ls [.ref (ad 0)]) := by
  have hx := C.1.1
  have hb := C.1.2.1
  have hok := C.2.2.1
  unfold jb_Model_checkCall_58 at h
  refine lv_iconst (v := 1) hx hb dd_Model_checkCall_58 (by decide) ?_
  refine lv_goto (tgt := 63) hx hb dd_Model_checkCall_59 (by decide) ?_
  exact wj_Model_checkCall_63 htr C hne h hP hS (lv_sub hl [0] rfl)
set_option maxHeartbeats 4000000 in
set_option maxRecDepth 100000 in
theorem ct_Model_checkCall {l : Launch} {D : va_G} {ad : Nat → Nat} {ca : Nat → ClassId} {ads : List Nat} (htr : l.stackTraces = false) (hok : xk_ok (kw_m ad ca) ads) {fu : Nat} {u u' : xk_St} {r : Unit} (h : fm_Model_checkCall fu u = some (r, u')) :
    ∀ sz, xk_Met l ⟨"ModuleHouseModel", "checkCall", "()V"⟩ (Cond.code ⟨"ModuleHouseModel", "checkCall", "()V"⟩ prog_14_method_82_code 2 none :: xk_gd) rm_Model_checkCall (xk_Pc D kx_cl (kx_ty ca) (kw_m ad ca) ads xk_F sz [.ref (ad 0)] u) (xk_Qc D kx_cl (kw_m ad ca) ads (xo_v (.inl r)) u') (xk_A ads sz) := by
  unfold fm_Model_checkCall at h
  refine xk_con (by decide) htr hok (Nat.le_of_ble_eq_true rfl) (fun p e s m below meth c ls C hne hl hP => ?_)
  have hx := C.1.1
  have hb := C.1.2.1
  have hS : va_S (xk_A ads s.heap.size) s.heap s.heap [] := va_S.rf
  have hl : lv_has ls 2 [(0, .ref (ad 0))] := hl
  refine lv_aload_n hx hb dd_Model_checkCall_0 rfl (lv_at hl 0 rfl) ?_
  refine lv_aload_n hx hb dd_Model_checkCall_1 rfl (lv_at hl 0 rfl) ?_
  refine gf_m_Model_0_op C hP dd_Model_checkCall_2 ?_
  refine lv_bipush (v := 16) hx hb dd_Model_checkCall_5 (by decide) ?_
  refine lv_icmp_ne (tgt := 31) hx hb dd_Model_checkCall_7 (by decide) (fun hc => ?_) (fun hc => ?_)
  · have h := xp_f hc h
    refine lv_aload_n hx hb dd_Model_checkCall_31 rfl (lv_at hl 0 rfl) ?_
    refine gf_m_Model_0_hasTable C hP dd_Model_checkCall_32 ?_
    refine lv_if_eq (tgt := 58) hx hb dd_Model_checkCall_35 (by decide) (fun hc => ?_) (fun hc => ?_)
    · have h := xp_t hc h
      exact wj_Model_checkCall_58 htr C hne h hP hS (lv_sub hl [0] rfl)
    · have h := xp_f hc h
      refine lv_aload_n hx hb dd_Model_checkCall_38 rfl (lv_at hl 0 rfl) ?_
      refine gf_m_Model_0_y C hP dd_Model_checkCall_39 ?_
      refine lv_lconst (v := 0) hx hb dd_Model_checkCall_42 (by decide) ?_
      refine xr_lc_ne (tgt := 58) hx hb dd_Model_checkCall_43 dd_Model_checkCall_44 (by decide) (fun hc => ?_) (fun hc => ?_)
      · have h := xp_f hc h
        exact wj_Model_checkCall_58 htr C hne h hP hS (lv_sub hl [0] rfl)
      · have h := xp_t hc h
        refine lv_aload_n hx hb dd_Model_checkCall_47 rfl (lv_at hl 0 rfl) ?_
        refine lv_aload_n hx hb dd_Model_checkCall_48 rfl (lv_at hl 0 rfl) ?_
        refine gf_m_Model_0_x C hP dd_Model_checkCall_49 ?_
        obtain ⟨a5, u6, hq, h⟩ := xp_seq h
        refine xk_goesI (xr_V (As := [.long (u.2.1 0)]) (rest := [.ref (ad 0)]) C hP hS (ct_Model_isFunctionType htr hok hq) kq_Model_426 0 11 rfl rfl ⟨rfl, rfl, Nat.le_of_ble_eq_true rfl, Nat.le_of_ble_eq_true rfl⟩ ⟨Nat.le_of_ble_eq_true rfl, Nat.le_of_ble_eq_true rfl⟩ hl.1 rfl rfl (Nat.le_of_ble_eq_true rfl) dd_Model_checkCall_52) hS (fun H locs hP hS => ?_)
        clear hq
        refine lv_if_ne (tgt := 62) hx hb dd_Model_checkCall_55 (by decide) (fun hc => ?_) (fun hc => ?_)
        · have h := xp_f hc h
          refine lv_iconst (v := 0) hx hb dd_Model_checkCall_62 (by decide) ?_
          exact wj_Model_checkCall_63 htr C hne h hP hS (lv_sub hl [0] rfl)
        · have h := xp_t hc h
          exact wj_Model_checkCall_58 htr C hne h hP hS (lv_sub hl [0] rfl)
  · have h := xp_t hc h
    refine lv_aload_n hx hb dd_Model_checkCall_10 rfl (lv_at hl 0 rfl) ?_
    refine gf_m_Model_0_x C hP dd_Model_checkCall_11 ?_
    refine lv_aload_n hx hb dd_Model_checkCall_14 rfl (lv_at hl 0 rfl) ?_
    refine gf_m_Model_0_functions C hP dd_Model_checkCall_15 ?_
    refine lv_i2l hx hb dd_Model_checkCall_18 rfl ?_
    refine xr_lc_lt (tgt := 27) hx hb dd_Model_checkCall_19 dd_Model_checkCall_20 (by decide) (fun hc => ?_) (fun hc => ?_)
    · have h := xp_t hc h
      refine lv_iconst (v := 0) hx hb dd_Model_checkCall_27 (by decide) ?_
      refine lv_goto (tgt := 63) hx hb dd_Model_checkCall_28 (by decide) ?_
      exact wj_Model_checkCall_63 htr C hne h hP hS (lv_sub hl [0] rfl)
    · have h := xp_f hc h
      refine lv_iconst (v := 1) hx hb dd_Model_checkCall_23 (by decide) ?_
      refine lv_goto (tgt := 63) hx hb dd_Model_checkCall_24 (by decide) ?_
      exact wj_Model_checkCall_63 htr C hne h hP hS (lv_sub hl [0] rfl)
abbrev rm_Model_checkChoice : Room := { frames := 4, cells := 1, slots := 6, locals := 65 }
noncomputable def jb_Model_checkChoice_64 (s0 : Int32) (u : xk_St) : Option (Unit × xk_St) :=
  (xs_seq (fm_Model_push s0 u) fun _ u7 => some ((()), u7))
noncomputable def jb_Model_checkChoice_51 (b1 : Int32) (b2 : Int32) (s0 : Int32) (u : xk_St) : Option (Unit × xk_St) :=
  (if s0 = 0 ∨ s0 = 1 then ( xs_let (xs_I u 7 s0) fun u6 => if b1 = (0 : Int32) then (jb_Model_checkChoice_64 b2 u6) else (jb_Model_checkChoice_64 b1 u6)  ) else none)
noncomputable def jb_Model_checkChoice_46 (b1 : Int32) (b2 : Int32) (u : xk_St) : Option (Unit × xk_St) :=
  jb_Model_checkChoice_51 b1 b2 (1 : Int32) u
noncomputable def jb_Model_checkChoice_50 (b1 : Int32) (b2 : Int32) (u : xk_St) : Option (Unit × xk_St) :=
  jb_Model_checkChoice_51 b1 b2 (0 : Int32) u
noncomputable def fm_Model_checkChoice (u : xk_St) : Option (Unit × xk_St) :=
  (xs_seq (fm_Model_take (1 : Int32) u) fun _ u1 => xs_seq (fm_Model_pop u1) fun a2 u3 => xs_seq (fm_Model_pop u3) fun a4 u5 => if (u5.1 7) = (0 : Int32) then (if (2 : Int32) < a2 then (jb_Model_checkChoice_46 a2 a4 u5) else (if (2 : Int32) < a4 then (jb_Model_checkChoice_46 a2 a4 u5) else (if a2 = a4 then (jb_Model_checkChoice_50 a2 a4 u5) else (if a2 = (0 : Int32) then (jb_Model_checkChoice_50 a2 a4 u5) else (if a4 = (0 : Int32) then (jb_Model_checkChoice_50 a2 a4 u5) else (jb_Model_checkChoice_46 a2 a4 u5)))))) else (jb_Model_checkChoice_46 a2 a4 u5))
set_option maxHeartbeats 4000000 in
set_option maxRecDepth 100000 in
theorem wj_Model_checkChoice_64 {p : Program} {l : Launch} {e : Env} {s : State} {m : MethodId} {args : Array Value} {below : List Frame} {meth : Method} {c : Code} {D : va_G} {ad : Nat → Nat} {ca : Nat → ClassId} {ads : List Nat} (htr : l.stackTraces = false) (C : xk_C D kx_cl (kx_ty ca) (kw_m ad ca) ads "ModuleHouseModel" prog_14_method_83_code 3 none p e s m args meth c) (hne : c.exceptionTable.isEmpty = true) {u' : xk_St} {r : Unit} {s0 : Int32} {u : xk_St} {H : Heap} {locs : List Loc} {ls : Array Slot} (h : jb_Model_checkChoice_64  s0 u = some (r, u')) (hP : va_P D kx_cl (kw_m ad ca u) H) (hS : va_S (xk_A ads s.heap.size) s.heap H locs) (hl : lv_has ls 3 []) : W p l e rm_Model_checkChoice s m args below meth c H locs 0 0 (xk_MQ below (xk_Qc D kx_cl (kw_m ad ca) ads (xo_v (.inl r)) u') args s (xk_A ads s.heap.size)) (F0 m 64 ls [.int s0, .ref (ad 0)]) := by
  have hx := C.1.1
  have hb := C.1.2.1
  have hok := C.2.2.1
  unfold jb_Model_checkChoice_64 at h
  obtain ⟨rx, u7, hq, h⟩ := xp_seq h
  refine xk_goesV (xr_V (As := [.int s0]) (rest := []) C hP hS (ct_Model_push htr hok hq) kq_Model_507 0 11 rfl rfl ⟨rfl, rfl, Nat.le_of_ble_eq_true rfl, Nat.le_of_ble_eq_true rfl⟩ ⟨Nat.le_of_ble_eq_true rfl, Nat.le_of_ble_eq_true rfl⟩ hl.1 rfl rfl (Nat.le_of_ble_eq_true rfl) dd_Model_checkChoice_64) hS (fun H locs hP hS => ?_)
  clear hq
  obtain ⟨rfl, rfl⟩ := xp_r h
  exact xr_vret C hP hS dd_Model_checkChoice_67
set_option maxHeartbeats 4000000 in
set_option maxRecDepth 100000 in
theorem wj_Model_checkChoice_51 {p : Program} {l : Launch} {e : Env} {s : State} {m : MethodId} {args : Array Value} {below : List Frame} {meth : Method} {c : Code} {D : va_G} {ad : Nat → Nat} {ca : Nat → ClassId} {ads : List Nat} (htr : l.stackTraces = false) (C : xk_C D kx_cl (kx_ty ca) (kw_m ad ca) ads "ModuleHouseModel" prog_14_method_83_code 3 none p e s m args meth c) (hne : c.exceptionTable.isEmpty = true) {u' : xk_St} {r : Unit} {b1 : Int32} {b2 : Int32} {s0 : Int32} {u : xk_St} {H : Heap} {locs : List Loc} {ls : Array Slot} (h : jb_Model_checkChoice_51  b1 b2 s0 u = some (r, u')) (hP : va_P D kx_cl (kw_m ad ca u) H) (hS : va_S (xk_A ads s.heap.size) s.heap H locs) (hl : lv_has ls 3 [(0, .ref (ad 0)), (1, .int b1), (2, .int b2)]) : W p l e rm_Model_checkChoice s m args below meth c H locs 0 0 (xk_MQ below (xk_Qc D kx_cl (kw_m ad ca) ads (xo_v (.inl r)) u') args s (xk_A ads s.heap.size)) (F0 m 51 ls [.int s0, .ref (ad 0)]) := by
  have hx := C.1.1
  have hb := C.1.2.1
  have hok := C.2.2.1
  unfold jb_Model_checkChoice_51 at h
  obtain ⟨hz, h⟩ := xp_p h
  refine pf_m_Model_0_wrong C hP hS hz dd_Model_checkChoice_51 (fun H locs hP hS => ?_)
  obtain ⟨u6, eu6, h⟩ := xp_let h
  rw [← eu6] at hP
  refine lv_aload_n hx hb dd_Model_checkChoice_54 rfl (lv_at hl 0 rfl) ?_
  refine lv_iload_n hx hb dd_Model_checkChoice_55 rfl (lv_at hl 1 rfl) ?_
  refine lv_if_ne (tgt := 63) hx hb dd_Model_checkChoice_56 (by decide) (fun hc => ?_) (fun hc => ?_)
  · have h := xp_f hc h
    refine lv_iload_n hx hb dd_Model_checkChoice_63 rfl (lv_at hl 1 rfl) ?_
    exact wj_Model_checkChoice_64 htr C hne h hP hS (lv_sub hl [] rfl)
  · have h := xp_t hc h
    refine lv_iload_n hx hb dd_Model_checkChoice_59 rfl (lv_at hl 2 rfl) ?_
    refine lv_goto (tgt := 64) hx hb dd_Model_checkChoice_60 (by decide) ?_
    exact wj_Model_checkChoice_64 htr C hne h hP hS (lv_sub hl [] rfl)
set_option maxHeartbeats 4000000 in
set_option maxRecDepth 100000 in
theorem wj_Model_checkChoice_46 {p : Program} {l : Launch} {e : Env} {s : State} {m : MethodId} {args : Array Value} {below : List Frame} {meth : Method} {c : Code} {D : va_G} {ad : Nat → Nat} {ca : Nat → ClassId} {ads : List Nat} (htr : l.stackTraces = false) (C : xk_C D kx_cl (kx_ty ca) (kw_m ad ca) ads "ModuleHouseModel" prog_14_method_83_code 3 none p e s m args meth c) (hne : c.exceptionTable.isEmpty = true) {u' : xk_St} {r : Unit} {b1 : Int32} {b2 : Int32} {u : xk_St} {H : Heap} {locs : List Loc} {ls : Array Slot} (h : jb_Model_checkChoice_46  b1 b2 u = some (r, u')) (hP : va_P D kx_cl (kw_m ad ca u) H) (hS : va_S (xk_A ads s.heap.size) s.heap H locs) (hl : lv_has ls 3 [(0, .ref (ad 0)), (1, .int b1), (2, .int b2)]) : W p l e rm_Model_checkChoice s m args below meth c H locs 0 0 (xk_MQ below (xk_Qc D kx_cl (kw_m ad ca) ads (xo_v (.inl r)) u') args s (xk_A ads s.heap.size)) (F0 m 46 ls [.ref (ad 0)]) := by
  have hx := C.1.1
  have hb := C.1.2.1
  have hok := C.2.2.1
  unfold jb_Model_checkChoice_46 at h
  refine lv_iconst (v := 1) hx hb dd_Model_checkChoice_46 (by decide) ?_
  refine lv_goto (tgt := 51) hx hb dd_Model_checkChoice_47 (by decide) ?_
  exact wj_Model_checkChoice_51 htr C hne h hP hS (lv_sub hl [0, 1, 2] rfl)
set_option maxHeartbeats 4000000 in
set_option maxRecDepth 100000 in
theorem wj_Model_checkChoice_50 {p : Program} {l : Launch} {e : Env} {s : State} {m : MethodId} {args : Array Value} {below : List Frame} {meth : Method} {c : Code} {D : va_G} {ad : Nat → Nat} {ca : Nat → ClassId} {ads : List Nat} (htr : l.stackTraces = false) (C : xk_C D kx_cl (kx_ty ca) (kw_m ad ca) ads "ModuleHouseModel" prog_14_method_83_code 3 none p e s m args meth c) (hne : c.exceptionTable.isEmpty = true) {u' : xk_St} {r : Unit} {b1 : Int32} {b2 : Int32} {u : xk_St} {H : Heap} {locs : List Loc} {ls : Array Slot} (h : jb_Model_checkChoice_50  b1 b2 u = some (r, u')) (hP : va_P D kx_cl (kw_m ad ca u) H) (hS : va_S (xk_A ads s.heap.size) s.heap H locs) (hl : lv_has ls 3 [(0, .ref (ad 0)), (1, .int b1), (2, .int b2)]) : W p l e rm_Model_checkChoice s m args below meth c H locs 0 0 (xk_MQ below (xk_Qc D kx_cl (kw_m ad ca) ads (xo_v (.inl r)) u') args s (xk_A ads s.heap.size)) (F0 m 50 ls [.ref (ad 0)]) := by
  have hx := C.1.1
  have hb := C.1.2.1
  have hok := C.2.2.1
  unfold jb_Model_checkChoice_50 at h
  refine lv_iconst (v := 0) hx hb dd_Model_checkChoice_50 (by decide) ?_
  exact wj_Model_checkChoice_51 htr C hne h hP hS (lv_sub hl [0, 1, 2] rfl)
set_option maxHeartbeats 4000000 in
set_option maxRecDepth 100000 in
theorem ct_Model_checkChoice {l : Launch} {D : va_G} {ad : Nat → Nat} {ca : Nat → ClassId} {ads : List Nat} (htr : l.stackTraces = false) (hok : xk_ok (kw_m ad ca) ads) {u u' : xk_St} {r : Unit} (h : fm_Model_checkChoice u = some (r, u')) :
    ∀ sz, xk_Met l ⟨"ModuleHouseModel", "checkChoice", "()V"⟩ (Cond.code ⟨"ModuleHouseModel", "checkChoice", "()V"⟩ prog_14_method_83_code 3 none :: xk_gd) rm_Model_checkChoice (xk_Pc D kx_cl (kx_ty ca) (kw_m ad ca) ads xk_F sz [.ref (ad 0)] u) (xk_Qc D kx_cl (kw_m ad ca) ads (xo_v (.inl r)) u') (xk_A ads sz) := by
  unfold fm_Model_checkChoice at h
  refine xk_con (by decide) htr hok (Nat.le_of_ble_eq_true rfl) (fun p e s m below meth c ls C hne hl hP => ?_)
  have hx := C.1.1
  have hb := C.1.2.1
  have hS : va_S (xk_A ads s.heap.size) s.heap s.heap [] := va_S.rf
  have hl : lv_has ls 3 [(0, .ref (ad 0))] := hl
  refine lv_aload_n hx hb dd_Model_checkChoice_0 rfl (lv_at hl 0 rfl) ?_
  refine lv_iconst (v := 1) hx hb dd_Model_checkChoice_1 (by decide) ?_
  obtain ⟨rx, u1, hq, h⟩ := xp_seq h
  refine xk_goesV (xr_V (As := [.int (1 : Int32)]) (rest := []) C hP hS (ct_Model_take htr hok hq) kq_Model_504 0 11 rfl rfl ⟨rfl, rfl, Nat.le_of_ble_eq_true rfl, Nat.le_of_ble_eq_true rfl⟩ ⟨Nat.le_of_ble_eq_true rfl, Nat.le_of_ble_eq_true rfl⟩ hl.1 rfl rfl (Nat.le_of_ble_eq_true rfl) dd_Model_checkChoice_2) hS (fun H locs hP hS => ?_)
  clear hq
  refine lv_aload_n hx hb dd_Model_checkChoice_5 rfl (lv_at hl 0 rfl) ?_
  obtain ⟨a2, u3, hq, h⟩ := xp_seq h
  refine xk_goesI (xr_V (As := []) (rest := []) C hP hS (ct_Model_pop htr hok hq) kq_Model_493 0 11 rfl rfl ⟨rfl, rfl, Nat.le_of_ble_eq_true rfl, Nat.le_of_ble_eq_true rfl⟩ ⟨Nat.le_of_ble_eq_true rfl, Nat.le_of_ble_eq_true rfl⟩ hl.1 rfl rfl (Nat.le_of_ble_eq_true rfl) dd_Model_checkChoice_6) hS (fun H locs hP hS => ?_)
  clear hq
  refine lv_istore_n (lv' := [(1, .int a2), (0, .ref (ad 0))]) hx hb dd_Model_checkChoice_9 rfl hl (by decide) rfl (fun ls hl => ?_)
  refine lv_aload_n hx hb dd_Model_checkChoice_10 rfl (lv_at hl 1 rfl) ?_
  obtain ⟨a4, u5, hq, h⟩ := xp_seq h
  refine xk_goesI (xr_V (As := []) (rest := []) C hP hS (ct_Model_pop htr hok hq) kq_Model_493 0 11 rfl rfl ⟨rfl, rfl, Nat.le_of_ble_eq_true rfl, Nat.le_of_ble_eq_true rfl⟩ ⟨Nat.le_of_ble_eq_true rfl, Nat.le_of_ble_eq_true rfl⟩ hl.1 rfl rfl (Nat.le_of_ble_eq_true rfl) dd_Model_checkChoice_11) hS (fun H locs hP hS => ?_)
  clear hq
  refine lv_istore_n (lv' := [(2, .int a4), (1, .int a2), (0, .ref (ad 0))]) hx hb dd_Model_checkChoice_14 rfl hl (by decide) rfl (fun ls hl => ?_)
  refine lv_aload_n hx hb dd_Model_checkChoice_15 rfl (lv_at hl 2 rfl) ?_
  refine lv_aload_n hx hb dd_Model_checkChoice_16 rfl (lv_at hl 2 rfl) ?_
  refine gf_m_Model_0_wrong C hP dd_Model_checkChoice_17 ?_
  refine lv_if_ne (tgt := 46) hx hb dd_Model_checkChoice_20 (by decide) (fun hc => ?_) (fun hc => ?_)
  · have h := xp_f hc h
    exact wj_Model_checkChoice_46 htr C hne h hP hS (lv_sub hl [2, 1, 0] rfl)
  · have h := xp_t hc h
    refine lv_iload_n hx hb dd_Model_checkChoice_23 rfl (lv_at hl 1 rfl) ?_
    refine lv_iconst (v := 2) hx hb dd_Model_checkChoice_24 (by decide) ?_
    refine lv_icmp_gt (tgt := 46) hx hb dd_Model_checkChoice_25 (by decide) (fun hc => ?_) (fun hc => ?_)
    · have h := xp_t hc h
      exact wj_Model_checkChoice_46 htr C hne h hP hS (lv_sub hl [2, 1, 0] rfl)
    · have h := xp_f hc h
      refine lv_iload_n hx hb dd_Model_checkChoice_28 rfl (lv_at hl 0 rfl) ?_
      refine lv_iconst (v := 2) hx hb dd_Model_checkChoice_29 (by decide) ?_
      refine lv_icmp_gt (tgt := 46) hx hb dd_Model_checkChoice_30 (by decide) (fun hc => ?_) (fun hc => ?_)
      · have h := xp_t hc h
        exact wj_Model_checkChoice_46 htr C hne h hP hS (lv_sub hl [2, 1, 0] rfl)
      · have h := xp_f hc h
        refine lv_iload_n hx hb dd_Model_checkChoice_33 rfl (lv_at hl 1 rfl) ?_
        refine lv_iload_n hx hb dd_Model_checkChoice_34 rfl (lv_at hl 0 rfl) ?_
        refine lv_icmp_eq (tgt := 50) hx hb dd_Model_checkChoice_35 (by decide) (fun hc => ?_) (fun hc => ?_)
        · have h := xp_t hc h
          exact wj_Model_checkChoice_50 htr C hne h hP hS (lv_sub hl [2, 1, 0] rfl)
        · have h := xp_f hc h
          refine lv_iload_n hx hb dd_Model_checkChoice_38 rfl (lv_at hl 1 rfl) ?_
          refine lv_if_eq (tgt := 50) hx hb dd_Model_checkChoice_39 (by decide) (fun hc => ?_) (fun hc => ?_)
          · have h := xp_t hc h
            exact wj_Model_checkChoice_50 htr C hne h hP hS (lv_sub hl [2, 1, 0] rfl)
          · have h := xp_f hc h
            refine lv_iload_n hx hb dd_Model_checkChoice_42 rfl (lv_at hl 0 rfl) ?_
            refine lv_if_eq (tgt := 50) hx hb dd_Model_checkChoice_43 (by decide) (fun hc => ?_) (fun hc => ?_)
            · have h := xp_t hc h
              exact wj_Model_checkChoice_50 htr C hne h hP hS (lv_sub hl [2, 1, 0] rfl)
            · have h := xp_f hc h
              exact wj_Model_checkChoice_46 htr C hne h hP hS (lv_sub hl [2, 1, 0] rfl)
abbrev rm_Model_checkWays : Room := { frames := 7, cells := 1, slots := 6, locals := 136 }
noncomputable def jb_Model_checkWays_139 (fu : Nat) (u : xk_St) : Option (Unit × xk_St) :=
  (xs_seq (fm_Model_checkBlock fu u) fun _ u3 => some ((()), u3))
noncomputable def jb_Model_checkWays_174 (fu : Nat) (u : xk_St) : Option (Unit × xk_St) :=
  (xs_seq (fm_Model_out (u.2.1 0) u) fun a6 u7 => if (0 : Int32) ≤ a6 then ((xs_seq (fm_Model_takeEnd fu a6 u7) fun _ u8 => if (u8.1 8) = (12 : Int32) then ((xs_seq (fm_Model_unreachable u8) fun _ u10 => some ((()), u10))) else ((xs_seq (fm_Model_bringEnd fu a6 u8) fun _ u9 => some ((()), u9))))) else (some ((()), u7)))
noncomputable def jb_Model_checkWays_160 (fu : Nat) (u : xk_St) : Option (Unit × xk_St) :=
  if (u.1 8) = (13 : Int32) then ((xs_seq (fm_Model_take (1 : Int32) u) fun _ u11 => jb_Model_checkWays_174 fu u11)) else (jb_Model_checkWays_174 fu u)
noncomputable def jb_Model_checkWays_238 (fu : Nat) (u : xk_St) : Option (Unit × xk_St) :=
  (xs_seq (fm_Model_checkCall fu u) fun _ u15 => some ((()), u15))
noncomputable def fm_Model_checkWays (fu : Nat) (u : xk_St) : Option (Unit × xk_St) :=
  (xs_let (u.1 8) fun a1 => if a1 = (0 : Int32) then ((xs_seq (fm_Model_unreachable u) fun _ u2 => some ((()), u2))) else if a1 = (1 : Int32) then (some ((()), u)) else if a1 = (2 : Int32) then (jb_Model_checkWays_139 fu u) else if a1 = (3 : Int32) then (jb_Model_checkWays_139 fu u) else if a1 = (4 : Int32) then (jb_Model_checkWays_139 fu u) else if a1 = (5 : Int32) then ((xs_seq (fm_Model_checkElse fu u) fun _ u4 => some ((()), u4))) else if a1 = (6 : Int32) then (some ((()), u)) else if a1 = (7 : Int32) then (some ((()), u)) else if a1 = (8 : Int32) then (some ((()), u)) else if a1 = (9 : Int32) then (some ((()), u)) else if a1 = (10 : Int32) then (some ((()), u)) else if a1 = (11 : Int32) then ((xs_seq (fm_Model_checkEnd fu u) fun _ u5 => some ((()), u5))) else if a1 = (12 : Int32) then (jb_Model_checkWays_160 fu u) else if a1 = (13 : Int32) then (jb_Model_checkWays_160 fu u) else if a1 = (14 : Int32) then ((xs_seq (fm_Model_checkTable fu u) fun _ u12 => some ((()), u12))) else if a1 = (15 : Int32) then ((xs_seq (fm_Model_takeEnd fu (0 : Int32) u) fun _ u13 => xs_seq (fm_Model_unreachable u13) fun _ u14 => some ((()), u14))) else if a1 = (16 : Int32) then (jb_Model_checkWays_238 fu u) else if a1 = (17 : Int32) then (jb_Model_checkWays_238 fu u) else if a1 = (18 : Int32) then (some ((()), u)) else if a1 = (19 : Int32) then (some ((()), u)) else if a1 = (20 : Int32) then (some ((()), u)) else if a1 = (21 : Int32) then (some ((()), u)) else if a1 = (22 : Int32) then (some ((()), u)) else if a1 = (23 : Int32) then (some ((()), u)) else if a1 = (24 : Int32) then (some ((()), u)) else if a1 = (25 : Int32) then (some ((()), u)) else if a1 = (26 : Int32) then ((xs_seq (fm_Model_pop u) fun a16 u17 => some ((()), u17))) else if a1 = (27 : Int32) then ((xs_seq (fm_Model_checkChoice u) fun _ u18 => some ((()), u18))) else (some ((()), u)))
set_option maxHeartbeats 4000000 in
set_option maxRecDepth 100000 in
theorem wj_Model_checkWays_139 {p : Program} {l : Launch} {e : Env} {s : State} {m : MethodId} {args : Array Value} {below : List Frame} {meth : Method} {c : Code} {D : va_G} {ad : Nat → Nat} {ca : Nat → ClassId} {ads : List Nat} {fu : Nat} (htr : l.stackTraces = false) (C : xk_C D kx_cl (kx_ty ca) (kw_m ad ca) ads "ModuleHouseModel" prog_14_method_81_code 3 none p e s m args meth c) (hne : c.exceptionTable.isEmpty = true) {u' : xk_St} {r : Unit} {u : xk_St} {H : Heap} {locs : List Loc} {ls : Array Slot} (h : jb_Model_checkWays_139 fu   u = some (r, u')) (hP : va_P D kx_cl (kw_m ad ca u) H) (hS : va_S (xk_A ads s.heap.size) s.heap H locs) (hl : lv_has ls 3 [(0, .ref (ad 0))]) : W p l e rm_Model_checkWays s m args below meth c H locs 0 0 (xk_MQ below (xk_Qc D kx_cl (kw_m ad ca) ads (xo_v (.inl r)) u') args s (xk_A ads s.heap.size)) (F0 m 139 ls []) := by
  have hx := C.1.1
  have hb := C.1.2.1
  have hok := C.2.2.1
  unfold jb_Model_checkWays_139 at h
  refine lv_aload_n hx hb dd_Model_checkWays_139 rfl (lv_at hl 0 rfl) ?_
  obtain ⟨rx, u3, hq, h⟩ := xp_seq h
  refine xk_goesV (xr_V (As := []) (rest := []) C hP hS (ct_Model_checkBlock htr hok hq) kq_Model_568 0 11 rfl rfl ⟨rfl, rfl, Nat.le_of_ble_eq_true rfl, Nat.le_of_ble_eq_true rfl⟩ ⟨Nat.le_of_ble_eq_true rfl, Nat.le_of_ble_eq_true rfl⟩ hl.1 rfl rfl (Nat.le_of_ble_eq_true rfl) dd_Model_checkWays_140) hS (fun H locs hP hS => ?_)
  clear hq
  refine lv_goto (tgt := 260) hx hb dd_Model_checkWays_143 (by decide) ?_
  obtain ⟨rfl, rfl⟩ := xp_r h
  exact xr_vret C hP hS dd_Model_checkWays_260
set_option maxHeartbeats 4000000 in
set_option maxRecDepth 100000 in
theorem wj_Model_checkWays_174 {p : Program} {l : Launch} {e : Env} {s : State} {m : MethodId} {args : Array Value} {below : List Frame} {meth : Method} {c : Code} {D : va_G} {ad : Nat → Nat} {ca : Nat → ClassId} {ads : List Nat} {fu : Nat} (htr : l.stackTraces = false) (C : xk_C D kx_cl (kx_ty ca) (kw_m ad ca) ads "ModuleHouseModel" prog_14_method_81_code 3 none p e s m args meth c) (hne : c.exceptionTable.isEmpty = true) {u' : xk_St} {r : Unit} {u : xk_St} {H : Heap} {locs : List Loc} {ls : Array Slot} (h : jb_Model_checkWays_174 fu   u = some (r, u')) (hP : va_P D kx_cl (kw_m ad ca u) H) (hS : va_S (xk_A ads s.heap.size) s.heap H locs) (hl : lv_has ls 3 [(0, .ref (ad 0))]) : W p l e rm_Model_checkWays s m args below meth c H locs 0 0 (xk_MQ below (xk_Qc D kx_cl (kw_m ad ca) ads (xo_v (.inl r)) u') args s (xk_A ads s.heap.size)) (F0 m 174 ls []) := by
  have hx := C.1.1
  have hb := C.1.2.1
  have hok := C.2.2.1
  unfold jb_Model_checkWays_174 at h
  refine lv_aload_n hx hb dd_Model_checkWays_174 rfl (lv_at hl 0 rfl) ?_
  refine lv_aload_n hx hb dd_Model_checkWays_175 rfl (lv_at hl 0 rfl) ?_
  refine gf_m_Model_0_x C hP dd_Model_checkWays_176 ?_
  obtain ⟨a6, u7, hq, h⟩ := xp_seq h
  refine xk_goesI (xr_V (As := [.long (u.2.1 0)]) (rest := []) C hP hS (ct_Model_out htr hok hq) kq_Model_554 0 11 rfl rfl ⟨rfl, rfl, Nat.le_of_ble_eq_true rfl, Nat.le_of_ble_eq_true rfl⟩ ⟨Nat.le_of_ble_eq_true rfl, Nat.le_of_ble_eq_true rfl⟩ hl.1 rfl rfl (Nat.le_of_ble_eq_true rfl) dd_Model_checkWays_179) hS (fun H locs hP hS => ?_)
  clear hq
  refine lv_istore_n (lv' := [(1, .int a6), (0, .ref (ad 0))]) hx hb dd_Model_checkWays_182 rfl hl (by decide) rfl (fun ls hl => ?_)
  refine lv_iload_n hx hb dd_Model_checkWays_183 rfl (lv_at hl 0 rfl) ?_
  refine lv_if_ge (tgt := 190) hx hb dd_Model_checkWays_184 (by decide) (fun hc => ?_) (fun hc => ?_)
  · have h := xp_t hc h
    refine lv_aload_n hx hb dd_Model_checkWays_190 rfl (lv_at hl 1 rfl) ?_
    refine lv_iload_n hx hb dd_Model_checkWays_191 rfl (lv_at hl 0 rfl) ?_
    obtain ⟨rx, u8, hq, h⟩ := xp_seq h
    refine xk_goesV (xr_V (As := [.int a6]) (rest := []) C hP hS (ct_Model_takeEnd htr hok hq) kq_Model_562 0 11 rfl rfl ⟨rfl, rfl, Nat.le_of_ble_eq_true rfl, Nat.le_of_ble_eq_true rfl⟩ ⟨Nat.le_of_ble_eq_true rfl, Nat.le_of_ble_eq_true rfl⟩ hl.1 rfl rfl (Nat.le_of_ble_eq_true rfl) dd_Model_checkWays_192) hS (fun H locs hP hS => ?_)
    clear hq
    refine lv_aload_n hx hb dd_Model_checkWays_195 rfl (lv_at hl 1 rfl) ?_
    refine gf_m_Model_0_op C hP dd_Model_checkWays_196 ?_
    refine lv_bipush (v := 12) hx hb dd_Model_checkWays_199 (by decide) ?_
    refine lv_icmp_ne (tgt := 211) hx hb dd_Model_checkWays_201 (by decide) (fun hc => ?_) (fun hc => ?_)
    · have h := xp_f hc h
      refine lv_aload_n hx hb dd_Model_checkWays_211 rfl (lv_at hl 1 rfl) ?_
      refine lv_iload_n hx hb dd_Model_checkWays_212 rfl (lv_at hl 0 rfl) ?_
      obtain ⟨rx, u9, hq, h⟩ := xp_seq h
      refine xk_goesV (xr_V (As := [.int a6]) (rest := []) C hP hS (ct_Model_bringEnd htr hok hq) kq_Model_577 0 11 rfl rfl ⟨rfl, rfl, Nat.le_of_ble_eq_true rfl, Nat.le_of_ble_eq_true rfl⟩ ⟨Nat.le_of_ble_eq_true rfl, Nat.le_of_ble_eq_true rfl⟩ hl.1 rfl rfl (Nat.le_of_ble_eq_true rfl) dd_Model_checkWays_213) hS (fun H locs hP hS => ?_)
      clear hq
      refine lv_goto (tgt := 260) hx hb dd_Model_checkWays_216 (by decide) ?_
      obtain ⟨rfl, rfl⟩ := xp_r h
      exact xr_vret C hP hS dd_Model_checkWays_260
    · have h := xp_t hc h
      refine lv_aload_n hx hb dd_Model_checkWays_204 rfl (lv_at hl 1 rfl) ?_
      obtain ⟨rx, u10, hq, h⟩ := xp_seq h
      refine xk_goesV (xr_V (As := []) (rest := []) C hP hS (ct_Model_unreachable htr hok hq) kq_Model_565 0 11 rfl rfl ⟨rfl, rfl, Nat.le_of_ble_eq_true rfl, Nat.le_of_ble_eq_true rfl⟩ ⟨Nat.le_of_ble_eq_true rfl, Nat.le_of_ble_eq_true rfl⟩ hl.1 rfl rfl (Nat.le_of_ble_eq_true rfl) dd_Model_checkWays_205) hS (fun H locs hP hS => ?_)
      clear hq
      refine lv_goto (tgt := 260) hx hb dd_Model_checkWays_208 (by decide) ?_
      obtain ⟨rfl, rfl⟩ := xp_r h
      exact xr_vret C hP hS dd_Model_checkWays_260
  · have h := xp_f hc h
    refine lv_goto (tgt := 260) hx hb dd_Model_checkWays_187 (by decide) ?_
    obtain ⟨rfl, rfl⟩ := xp_r h
    exact xr_vret C hP hS dd_Model_checkWays_260
set_option maxHeartbeats 4000000 in
set_option maxRecDepth 100000 in
theorem wj_Model_checkWays_160 {p : Program} {l : Launch} {e : Env} {s : State} {m : MethodId} {args : Array Value} {below : List Frame} {meth : Method} {c : Code} {D : va_G} {ad : Nat → Nat} {ca : Nat → ClassId} {ads : List Nat} {fu : Nat} (htr : l.stackTraces = false) (C : xk_C D kx_cl (kx_ty ca) (kw_m ad ca) ads "ModuleHouseModel" prog_14_method_81_code 3 none p e s m args meth c) (hne : c.exceptionTable.isEmpty = true) {u' : xk_St} {r : Unit} {u : xk_St} {H : Heap} {locs : List Loc} {ls : Array Slot} (h : jb_Model_checkWays_160 fu   u = some (r, u')) (hP : va_P D kx_cl (kw_m ad ca u) H) (hS : va_S (xk_A ads s.heap.size) s.heap H locs) (hl : lv_has ls 3 [(0, .ref (ad 0))]) : W p l e rm_Model_checkWays s m args below meth c H locs 0 0 (xk_MQ below (xk_Qc D kx_cl (kw_m ad ca) ads (xo_v (.inl r)) u') args s (xk_A ads s.heap.size)) (F0 m 160 ls []) := by
  have hx := C.1.1
  have hb := C.1.2.1
  have hok := C.2.2.1
  unfold jb_Model_checkWays_160 at h
  refine lv_aload_n hx hb dd_Model_checkWays_160 rfl (lv_at hl 0 rfl) ?_
  refine gf_m_Model_0_op C hP dd_Model_checkWays_161 ?_
  refine lv_bipush (v := 13) hx hb dd_Model_checkWays_164 (by decide) ?_
  refine lv_icmp_ne (tgt := 174) hx hb dd_Model_checkWays_166 (by decide) (fun hc => ?_) (fun hc => ?_)
  · have h := xp_f hc h
    exact wj_Model_checkWays_174 htr C hne h hP hS (lv_sub hl [0] rfl)
  · have h := xp_t hc h
    refine lv_aload_n hx hb dd_Model_checkWays_169 rfl (lv_at hl 0 rfl) ?_
    refine lv_iconst (v := 1) hx hb dd_Model_checkWays_170 (by decide) ?_
    obtain ⟨rx, u11, hq, h⟩ := xp_seq h
    refine xk_goesV (xr_V (As := [.int (1 : Int32)]) (rest := []) C hP hS (ct_Model_take htr hok hq) kq_Model_504 0 11 rfl rfl ⟨rfl, rfl, Nat.le_of_ble_eq_true rfl, Nat.le_of_ble_eq_true rfl⟩ ⟨Nat.le_of_ble_eq_true rfl, Nat.le_of_ble_eq_true rfl⟩ hl.1 rfl rfl (Nat.le_of_ble_eq_true rfl) dd_Model_checkWays_171) hS (fun H locs hP hS => ?_)
    clear hq
    exact wj_Model_checkWays_174 htr C hne h hP hS (lv_sub hl [0] rfl)
set_option maxHeartbeats 4000000 in
set_option maxRecDepth 100000 in
theorem wj_Model_checkWays_238 {p : Program} {l : Launch} {e : Env} {s : State} {m : MethodId} {args : Array Value} {below : List Frame} {meth : Method} {c : Code} {D : va_G} {ad : Nat → Nat} {ca : Nat → ClassId} {ads : List Nat} {fu : Nat} (htr : l.stackTraces = false) (C : xk_C D kx_cl (kx_ty ca) (kw_m ad ca) ads "ModuleHouseModel" prog_14_method_81_code 3 none p e s m args meth c) (hne : c.exceptionTable.isEmpty = true) {u' : xk_St} {r : Unit} {u : xk_St} {H : Heap} {locs : List Loc} {ls : Array Slot} (h : jb_Model_checkWays_238 fu   u = some (r, u')) (hP : va_P D kx_cl (kw_m ad ca u) H) (hS : va_S (xk_A ads s.heap.size) s.heap H locs) (hl : lv_has ls 3 [(0, .ref (ad 0))]) : W p l e rm_Model_checkWays s m args below meth c H locs 0 0 (xk_MQ below (xk_Qc D kx_cl (kw_m ad ca) ads (xo_v (.inl r)) u') args s (xk_A ads s.heap.size)) (F0 m 238 ls []) := by
  have hx := C.1.1
  have hb := C.1.2.1
  have hok := C.2.2.1
  unfold jb_Model_checkWays_238 at h
  refine lv_aload_n hx hb dd_Model_checkWays_238 rfl (lv_at hl 0 rfl) ?_
  obtain ⟨rx, u15, hq, h⟩ := xp_seq h
  refine xk_goesV (xr_V (As := []) (rest := []) C hP hS (ct_Model_checkCall htr hok hq) kq_Model_583 0 11 rfl rfl ⟨rfl, rfl, Nat.le_of_ble_eq_true rfl, Nat.le_of_ble_eq_true rfl⟩ ⟨Nat.le_of_ble_eq_true rfl, Nat.le_of_ble_eq_true rfl⟩ hl.1 rfl rfl (Nat.le_of_ble_eq_true rfl) dd_Model_checkWays_239) hS (fun H locs hP hS => ?_)
  clear hq
  refine lv_goto (tgt := 260) hx hb dd_Model_checkWays_242 (by decide) ?_
  obtain ⟨rfl, rfl⟩ := xp_r h
  exact xr_vret C hP hS dd_Model_checkWays_260
set_option maxHeartbeats 4000000 in
set_option maxRecDepth 100000 in
theorem ct_Model_checkWays {l : Launch} {D : va_G} {ad : Nat → Nat} {ca : Nat → ClassId} {ads : List Nat} (htr : l.stackTraces = false) (hok : xk_ok (kw_m ad ca) ads) {fu : Nat} {u u' : xk_St} {r : Unit} (h : fm_Model_checkWays fu u = some (r, u')) :
    ∀ sz, xk_Met l ⟨"ModuleHouseModel", "checkWays", "()V"⟩ (Cond.code ⟨"ModuleHouseModel", "checkWays", "()V"⟩ prog_14_method_81_code 3 none :: xk_gd) rm_Model_checkWays (xk_Pc D kx_cl (kx_ty ca) (kw_m ad ca) ads xk_F sz [.ref (ad 0)] u) (xk_Qc D kx_cl (kw_m ad ca) ads (xo_v (.inl r)) u') (xk_A ads sz) := by
  unfold fm_Model_checkWays at h
  refine xk_con (by decide) htr hok (Nat.le_of_ble_eq_true rfl) (fun p e s m below meth c ls C hne hl hP => ?_)
  have hx := C.1.1
  have hb := C.1.2.1
  have hS : va_S (xk_A ads s.heap.size) s.heap s.heap [] := va_S.rf
  have hl : lv_has ls 3 [(0, .ref (ad 0))] := hl
  refine lv_aload_n hx hb dd_Model_checkWays_0 rfl (lv_at hl 0 rfl) ?_
  refine gf_m_Model_0_op C hP dd_Model_checkWays_1 ?_
  obtain ⟨a1, ea1, h⟩ := xp_let h
  refine xr_nami ea1 ?_
  by_cases hc0 : a1 = (0 : Int32)
  · have h := xp_t hc0 h
    refine lv_tableIn (off := 128) (tgt := 132) hx hb dd_Model_checkWays_4 (by rw [hc0]; decide) (by rw [hc0]; decide) (by rw [hc0]; rfl) (by decide) ?_
    refine lv_aload_n hx hb dd_Model_checkWays_132 rfl (lv_at hl 0 rfl) ?_
    obtain ⟨rx, u2, hq, h⟩ := xp_seq h
    refine xk_goesV (xr_V (As := []) (rest := []) C hP hS (ct_Model_unreachable htr hok hq) kq_Model_565 0 11 rfl rfl ⟨rfl, rfl, Nat.le_of_ble_eq_true rfl, Nat.le_of_ble_eq_true rfl⟩ ⟨Nat.le_of_ble_eq_true rfl, Nat.le_of_ble_eq_true rfl⟩ hl.1 rfl rfl (Nat.le_of_ble_eq_true rfl) dd_Model_checkWays_133) hS (fun H locs hP hS => ?_)
    clear hq
    refine lv_goto (tgt := 260) hx hb dd_Model_checkWays_136 (by decide) ?_
    obtain ⟨rfl, rfl⟩ := xp_r h
    exact xr_vret C hP hS dd_Model_checkWays_260
  have h := xp_f hc0 h
  by_cases hc1 : a1 = (1 : Int32)
  · have h := xp_t hc1 h
    refine lv_tableIn (off := 256) (tgt := 260) hx hb dd_Model_checkWays_4 (by rw [hc1]; decide) (by rw [hc1]; decide) (by rw [hc1]; rfl) (by decide) ?_
    obtain ⟨rfl, rfl⟩ := xp_r h
    exact xr_vret C hP hS dd_Model_checkWays_260
  have h := xp_f hc1 h
  by_cases hc2 : a1 = (2 : Int32)
  · have h := xp_t hc2 h
    refine lv_tableIn (off := 135) (tgt := 139) hx hb dd_Model_checkWays_4 (by rw [hc2]; decide) (by rw [hc2]; decide) (by rw [hc2]; rfl) (by decide) ?_
    exact wj_Model_checkWays_139 htr C hne h hP hS (lv_sub hl [0] rfl)
  have h := xp_f hc2 h
  by_cases hc3 : a1 = (3 : Int32)
  · have h := xp_t hc3 h
    refine lv_tableIn (off := 135) (tgt := 139) hx hb dd_Model_checkWays_4 (by rw [hc3]; decide) (by rw [hc3]; decide) (by rw [hc3]; rfl) (by decide) ?_
    exact wj_Model_checkWays_139 htr C hne h hP hS (lv_sub hl [0] rfl)
  have h := xp_f hc3 h
  by_cases hc4 : a1 = (4 : Int32)
  · have h := xp_t hc4 h
    refine lv_tableIn (off := 135) (tgt := 139) hx hb dd_Model_checkWays_4 (by rw [hc4]; decide) (by rw [hc4]; decide) (by rw [hc4]; rfl) (by decide) ?_
    exact wj_Model_checkWays_139 htr C hne h hP hS (lv_sub hl [0] rfl)
  have h := xp_f hc4 h
  by_cases hc5 : a1 = (5 : Int32)
  · have h := xp_t hc5 h
    refine lv_tableIn (off := 142) (tgt := 146) hx hb dd_Model_checkWays_4 (by rw [hc5]; decide) (by rw [hc5]; decide) (by rw [hc5]; rfl) (by decide) ?_
    refine lv_aload_n hx hb dd_Model_checkWays_146 rfl (lv_at hl 0 rfl) ?_
    obtain ⟨rx, u4, hq, h⟩ := xp_seq h
    refine xk_goesV (xr_V (As := []) (rest := []) C hP hS (ct_Model_checkElse htr hok hq) kq_Model_571 0 11 rfl rfl ⟨rfl, rfl, Nat.le_of_ble_eq_true rfl, Nat.le_of_ble_eq_true rfl⟩ ⟨Nat.le_of_ble_eq_true rfl, Nat.le_of_ble_eq_true rfl⟩ hl.1 rfl rfl (Nat.le_of_ble_eq_true rfl) dd_Model_checkWays_147) hS (fun H locs hP hS => ?_)
    clear hq
    refine lv_goto (tgt := 260) hx hb dd_Model_checkWays_150 (by decide) ?_
    obtain ⟨rfl, rfl⟩ := xp_r h
    exact xr_vret C hP hS dd_Model_checkWays_260
  have h := xp_f hc5 h
  by_cases hc6 : a1 = (6 : Int32)
  · have h := xp_t hc6 h
    refine lv_tableIn (off := 256) (tgt := 260) hx hb dd_Model_checkWays_4 (by rw [hc6]; decide) (by rw [hc6]; decide) (by rw [hc6]; rfl) (by decide) ?_
    obtain ⟨rfl, rfl⟩ := xp_r h
    exact xr_vret C hP hS dd_Model_checkWays_260
  have h := xp_f hc6 h
  by_cases hc7 : a1 = (7 : Int32)
  · have h := xp_t hc7 h
    refine lv_tableIn (off := 256) (tgt := 260) hx hb dd_Model_checkWays_4 (by rw [hc7]; decide) (by rw [hc7]; decide) (by rw [hc7]; rfl) (by decide) ?_
    obtain ⟨rfl, rfl⟩ := xp_r h
    exact xr_vret C hP hS dd_Model_checkWays_260
  have h := xp_f hc7 h
  by_cases hc8 : a1 = (8 : Int32)
  · have h := xp_t hc8 h
    refine lv_tableIn (off := 256) (tgt := 260) hx hb dd_Model_checkWays_4 (by rw [hc8]; decide) (by rw [hc8]; decide) (by rw [hc8]; rfl) (by decide) ?_
    obtain ⟨rfl, rfl⟩ := xp_r h
    exact xr_vret C hP hS dd_Model_checkWays_260
  have h := xp_f hc8 h
  by_cases hc9 : a1 = (9 : Int32)
  · have h := xp_t hc9 h
    refine lv_tableIn (off := 256) (tgt := 260) hx hb dd_Model_checkWays_4 (by rw [hc9]; decide) (by rw [hc9]; decide) (by rw [hc9]; rfl) (by decide) ?_
    obtain ⟨rfl, rfl⟩ := xp_r h
    exact xr_vret C hP hS dd_Model_checkWays_260
  have h := xp_f hc9 h
  by_cases hc10 : a1 = (10 : Int32)
  · have h := xp_t hc10 h
    refine lv_tableIn (off := 256) (tgt := 260) hx hb dd_Model_checkWays_4 (by rw [hc10]; decide) (by rw [hc10]; decide) (by rw [hc10]; rfl) (by decide) ?_
    obtain ⟨rfl, rfl⟩ := xp_r h
    exact xr_vret C hP hS dd_Model_checkWays_260
  have h := xp_f hc10 h
  by_cases hc11 : a1 = (11 : Int32)
  · have h := xp_t hc11 h
    refine lv_tableIn (off := 149) (tgt := 153) hx hb dd_Model_checkWays_4 (by rw [hc11]; decide) (by rw [hc11]; decide) (by rw [hc11]; rfl) (by decide) ?_
    refine lv_aload_n hx hb dd_Model_checkWays_153 rfl (lv_at hl 0 rfl) ?_
    obtain ⟨rx, u5, hq, h⟩ := xp_seq h
    refine xk_goesV (xr_V (As := []) (rest := []) C hP hS (ct_Model_checkEnd htr hok hq) kq_Model_574 0 11 rfl rfl ⟨rfl, rfl, Nat.le_of_ble_eq_true rfl, Nat.le_of_ble_eq_true rfl⟩ ⟨Nat.le_of_ble_eq_true rfl, Nat.le_of_ble_eq_true rfl⟩ hl.1 rfl rfl (Nat.le_of_ble_eq_true rfl) dd_Model_checkWays_154) hS (fun H locs hP hS => ?_)
    clear hq
    refine lv_goto (tgt := 260) hx hb dd_Model_checkWays_157 (by decide) ?_
    obtain ⟨rfl, rfl⟩ := xp_r h
    exact xr_vret C hP hS dd_Model_checkWays_260
  have h := xp_f hc11 h
  by_cases hc12 : a1 = (12 : Int32)
  · have h := xp_t hc12 h
    refine lv_tableIn (off := 156) (tgt := 160) hx hb dd_Model_checkWays_4 (by rw [hc12]; decide) (by rw [hc12]; decide) (by rw [hc12]; rfl) (by decide) ?_
    exact wj_Model_checkWays_160 htr C hne h hP hS (lv_sub hl [0] rfl)
  have h := xp_f hc12 h
  by_cases hc13 : a1 = (13 : Int32)
  · have h := xp_t hc13 h
    refine lv_tableIn (off := 156) (tgt := 160) hx hb dd_Model_checkWays_4 (by rw [hc13]; decide) (by rw [hc13]; decide) (by rw [hc13]; rfl) (by decide) ?_
    exact wj_Model_checkWays_160 htr C hne h hP hS (lv_sub hl [0] rfl)
  have h := xp_f hc13 h
  by_cases hc14 : a1 = (14 : Int32)
  · have h := xp_t hc14 h
    refine lv_tableIn (off := 215) (tgt := 219) hx hb dd_Model_checkWays_4 (by rw [hc14]; decide) (by rw [hc14]; decide) (by rw [hc14]; rfl) (by decide) ?_
    refine lv_aload_n hx hb dd_Model_checkWays_219 rfl (lv_at hl 0 rfl) ?_
    obtain ⟨rx, u12, hq, h⟩ := xp_seq h
    refine xk_goesV (xr_V (As := []) (rest := []) C hP hS (ct_Model_checkTable htr hok hq) kq_Model_580 0 11 rfl rfl ⟨rfl, rfl, Nat.le_of_ble_eq_true rfl, Nat.le_of_ble_eq_true rfl⟩ ⟨Nat.le_of_ble_eq_true rfl, Nat.le_of_ble_eq_true rfl⟩ hl.1 rfl rfl (Nat.le_of_ble_eq_true rfl) dd_Model_checkWays_220) hS (fun H locs hP hS => ?_)
    clear hq
    refine lv_goto (tgt := 260) hx hb dd_Model_checkWays_223 (by decide) ?_
    obtain ⟨rfl, rfl⟩ := xp_r h
    exact xr_vret C hP hS dd_Model_checkWays_260
  have h := xp_f hc14 h
  by_cases hc15 : a1 = (15 : Int32)
  · have h := xp_t hc15 h
    refine lv_tableIn (off := 222) (tgt := 226) hx hb dd_Model_checkWays_4 (by rw [hc15]; decide) (by rw [hc15]; decide) (by rw [hc15]; rfl) (by decide) ?_
    refine lv_aload_n hx hb dd_Model_checkWays_226 rfl (lv_at hl 0 rfl) ?_
    refine lv_iconst (v := 0) hx hb dd_Model_checkWays_227 (by decide) ?_
    obtain ⟨rx, u13, hq, h⟩ := xp_seq h
    refine xk_goesV (xr_V (As := [.int (0 : Int32)]) (rest := []) C hP hS (ct_Model_takeEnd htr hok hq) kq_Model_562 0 11 rfl rfl ⟨rfl, rfl, Nat.le_of_ble_eq_true rfl, Nat.le_of_ble_eq_true rfl⟩ ⟨Nat.le_of_ble_eq_true rfl, Nat.le_of_ble_eq_true rfl⟩ hl.1 rfl rfl (Nat.le_of_ble_eq_true rfl) dd_Model_checkWays_228) hS (fun H locs hP hS => ?_)
    clear hq
    refine lv_aload_n hx hb dd_Model_checkWays_231 rfl (lv_at hl 0 rfl) ?_
    obtain ⟨rx, u14, hq, h⟩ := xp_seq h
    refine xk_goesV (xr_V (As := []) (rest := []) C hP hS (ct_Model_unreachable htr hok hq) kq_Model_565 0 11 rfl rfl ⟨rfl, rfl, Nat.le_of_ble_eq_true rfl, Nat.le_of_ble_eq_true rfl⟩ ⟨Nat.le_of_ble_eq_true rfl, Nat.le_of_ble_eq_true rfl⟩ hl.1 rfl rfl (Nat.le_of_ble_eq_true rfl) dd_Model_checkWays_232) hS (fun H locs hP hS => ?_)
    clear hq
    refine lv_goto (tgt := 260) hx hb dd_Model_checkWays_235 (by decide) ?_
    obtain ⟨rfl, rfl⟩ := xp_r h
    exact xr_vret C hP hS dd_Model_checkWays_260
  have h := xp_f hc15 h
  by_cases hc16 : a1 = (16 : Int32)
  · have h := xp_t hc16 h
    refine lv_tableIn (off := 234) (tgt := 238) hx hb dd_Model_checkWays_4 (by rw [hc16]; decide) (by rw [hc16]; decide) (by rw [hc16]; rfl) (by decide) ?_
    exact wj_Model_checkWays_238 htr C hne h hP hS (lv_sub hl [0] rfl)
  have h := xp_f hc16 h
  by_cases hc17 : a1 = (17 : Int32)
  · have h := xp_t hc17 h
    refine lv_tableIn (off := 234) (tgt := 238) hx hb dd_Model_checkWays_4 (by rw [hc17]; decide) (by rw [hc17]; decide) (by rw [hc17]; rfl) (by decide) ?_
    exact wj_Model_checkWays_238 htr C hne h hP hS (lv_sub hl [0] rfl)
  have h := xp_f hc17 h
  by_cases hc18 : a1 = (18 : Int32)
  · have h := xp_t hc18 h
    refine lv_tableIn (off := 256) (tgt := 260) hx hb dd_Model_checkWays_4 (by rw [hc18]; decide) (by rw [hc18]; decide) (by rw [hc18]; rfl) (by decide) ?_
    obtain ⟨rfl, rfl⟩ := xp_r h
    exact xr_vret C hP hS dd_Model_checkWays_260
  have h := xp_f hc18 h
  by_cases hc19 : a1 = (19 : Int32)
  · have h := xp_t hc19 h
    refine lv_tableIn (off := 256) (tgt := 260) hx hb dd_Model_checkWays_4 (by rw [hc19]; decide) (by rw [hc19]; decide) (by rw [hc19]; rfl) (by decide) ?_
    obtain ⟨rfl, rfl⟩ := xp_r h
    exact xr_vret C hP hS dd_Model_checkWays_260
  have h := xp_f hc19 h
  by_cases hc20 : a1 = (20 : Int32)
  · have h := xp_t hc20 h
    refine lv_tableIn (off := 256) (tgt := 260) hx hb dd_Model_checkWays_4 (by rw [hc20]; decide) (by rw [hc20]; decide) (by rw [hc20]; rfl) (by decide) ?_
    obtain ⟨rfl, rfl⟩ := xp_r h
    exact xr_vret C hP hS dd_Model_checkWays_260
  have h := xp_f hc20 h
  by_cases hc21 : a1 = (21 : Int32)
  · have h := xp_t hc21 h
    refine lv_tableIn (off := 256) (tgt := 260) hx hb dd_Model_checkWays_4 (by rw [hc21]; decide) (by rw [hc21]; decide) (by rw [hc21]; rfl) (by decide) ?_
    obtain ⟨rfl, rfl⟩ := xp_r h
    exact xr_vret C hP hS dd_Model_checkWays_260
  have h := xp_f hc21 h
  by_cases hc22 : a1 = (22 : Int32)
  · have h := xp_t hc22 h
    refine lv_tableIn (off := 256) (tgt := 260) hx hb dd_Model_checkWays_4 (by rw [hc22]; decide) (by rw [hc22]; decide) (by rw [hc22]; rfl) (by decide) ?_
    obtain ⟨rfl, rfl⟩ := xp_r h
    exact xr_vret C hP hS dd_Model_checkWays_260
  have h := xp_f hc22 h
  by_cases hc23 : a1 = (23 : Int32)
  · have h := xp_t hc23 h
    refine lv_tableIn (off := 256) (tgt := 260) hx hb dd_Model_checkWays_4 (by rw [hc23]; decide) (by rw [hc23]; decide) (by rw [hc23]; rfl) (by decide) ?_
    obtain ⟨rfl, rfl⟩ := xp_r h
    exact xr_vret C hP hS dd_Model_checkWays_260
  have h := xp_f hc23 h
  by_cases hc24 : a1 = (24 : Int32)
  · have h := xp_t hc24 h
    refine lv_tableIn (off := 256) (tgt := 260) hx hb dd_Model_checkWays_4 (by rw [hc24]; decide) (by rw [hc24]; decide) (by rw [hc24]; rfl) (by decide) ?_
    obtain ⟨rfl, rfl⟩ := xp_r h
    exact xr_vret C hP hS dd_Model_checkWays_260
  have h := xp_f hc24 h
  by_cases hc25 : a1 = (25 : Int32)
  · have h := xp_t hc25 h
    refine lv_tableIn (off := 256) (tgt := 260) hx hb dd_Model_checkWays_4 (by rw [hc25]; decide) (by rw [hc25]; decide) (by rw [hc25]; rfl) (by decide) ?_
    obtain ⟨rfl, rfl⟩ := xp_r h
    exact xr_vret C hP hS dd_Model_checkWays_260
  have h := xp_f hc25 h
  by_cases hc26 : a1 = (26 : Int32)
  · have h := xp_t hc26 h
    refine lv_tableIn (off := 241) (tgt := 245) hx hb dd_Model_checkWays_4 (by rw [hc26]; decide) (by rw [hc26]; decide) (by rw [hc26]; rfl) (by decide) ?_
    refine lv_aload_n hx hb dd_Model_checkWays_245 rfl (lv_at hl 0 rfl) ?_
    obtain ⟨a16, u17, hq, h⟩ := xp_seq h
    refine xk_goesI (xr_V (As := []) (rest := []) C hP hS (ct_Model_pop htr hok hq) kq_Model_493 0 11 rfl rfl ⟨rfl, rfl, Nat.le_of_ble_eq_true rfl, Nat.le_of_ble_eq_true rfl⟩ ⟨Nat.le_of_ble_eq_true rfl, Nat.le_of_ble_eq_true rfl⟩ hl.1 rfl rfl (Nat.le_of_ble_eq_true rfl) dd_Model_checkWays_246) hS (fun H locs hP hS => ?_)
    clear hq
    refine lv_istore_n (lv' := [(2, .int a16), (0, .ref (ad 0))]) hx hb dd_Model_checkWays_249 rfl hl (by decide) rfl (fun ls hl => ?_)
    refine lv_goto (tgt := 260) hx hb dd_Model_checkWays_250 (by decide) ?_
    obtain ⟨rfl, rfl⟩ := xp_r h
    exact xr_vret C hP hS dd_Model_checkWays_260
  have h := xp_f hc26 h
  by_cases hc27 : a1 = (27 : Int32)
  · have h := xp_t hc27 h
    refine lv_tableIn (off := 249) (tgt := 253) hx hb dd_Model_checkWays_4 (by rw [hc27]; decide) (by rw [hc27]; decide) (by rw [hc27]; rfl) (by decide) ?_
    refine lv_aload_n hx hb dd_Model_checkWays_253 rfl (lv_at hl 0 rfl) ?_
    obtain ⟨rx, u18, hq, h⟩ := xp_seq h
    refine xk_goesV (xr_V (As := []) (rest := []) C hP hS (ct_Model_checkChoice htr hok hq) kq_Model_586 0 11 rfl rfl ⟨rfl, rfl, Nat.le_of_ble_eq_true rfl, Nat.le_of_ble_eq_true rfl⟩ ⟨Nat.le_of_ble_eq_true rfl, Nat.le_of_ble_eq_true rfl⟩ hl.1 rfl rfl (Nat.le_of_ble_eq_true rfl) dd_Model_checkWays_254) hS (fun H locs hP hS => ?_)
    clear hq
    refine lv_goto (tgt := 260) hx hb dd_Model_checkWays_257 (by decide) ?_
    obtain ⟨rfl, rfl⟩ := xp_r h
    exact xr_vret C hP hS dd_Model_checkWays_260
  have h := xp_f hc27 h
  have hd0 := lv_neT hc0 (a := 0) (by decide)
  have hd1 := lv_neT hc1 (a := 1) (by decide)
  have hd2 := lv_neT hc2 (a := 2) (by decide)
  have hd3 := lv_neT hc3 (a := 3) (by decide)
  have hd4 := lv_neT hc4 (a := 4) (by decide)
  have hd5 := lv_neT hc5 (a := 5) (by decide)
  have hd6 := lv_neT hc6 (a := 6) (by decide)
  have hd7 := lv_neT hc7 (a := 7) (by decide)
  have hd8 := lv_neT hc8 (a := 8) (by decide)
  have hd9 := lv_neT hc9 (a := 9) (by decide)
  have hd10 := lv_neT hc10 (a := 10) (by decide)
  have hd11 := lv_neT hc11 (a := 11) (by decide)
  have hd12 := lv_neT hc12 (a := 12) (by decide)
  have hd13 := lv_neT hc13 (a := 13) (by decide)
  have hd14 := lv_neT hc14 (a := 14) (by decide)
  have hd15 := lv_neT hc15 (a := 15) (by decide)
  have hd16 := lv_neT hc16 (a := 16) (by decide)
  have hd17 := lv_neT hc17 (a := 17) (by decide)
  have hd18 := lv_neT hc18 (a := 18) (by decide)
  have hd19 := lv_neT hc19 (a := 19) (by decide)
  have hd20 := lv_neT hc20 (a := 20) (by decide)
  have hd21 := lv_neT hc21 (a := 21) (by decide)
  have hd22 := lv_neT hc22 (a := 22) (by decide)
  have hd23 := lv_neT hc23 (a := 23) (by decide)
  have hd24 := lv_neT hc24 (a := 24) (by decide)
  have hd25 := lv_neT hc25 (a := 25) (by decide)
  have hd26 := lv_neT hc26 (a := 26) (by decide)
  have hd27 := lv_neT hc27 (a := 27) (by decide)
  refine lv_tableOut (tgt := 260) hx hb dd_Model_checkWays_4 (by omega) (by decide) ?_
  obtain ⟨rfl, rfl⟩ := xp_r h
  exact xr_vret C hP hS dd_Model_checkWays_260
