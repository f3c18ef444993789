abbrev rm_Model_thrown : Room := { frames := 1, cells := 1, slots := 6, locals := 0 }
noncomputable def fm_Model_thrown (u : xk_St) : Option (Int32 × xk_St) :=
  some ((u.1 0), u)
set_option maxHeartbeats 4000000 in
set_option maxRecDepth 100000 in
theorem ct_Model_thrown {l : Launch} {D : va_G} {ad : Nat → Nat} {ca : Nat → ClassId} {ads : List Nat} (htr : l.stackTraces = false) (hok : xk_ok (kw_m ad ca) ads) {u u' : xk_St} {r : Int32} (h : fm_Model_thrown u = some (r, u')) :
    ∀ sz, xk_Met l ⟨"ModuleHouseModel", "thrown", "()I"⟩ (Cond.code ⟨"ModuleHouseModel", "thrown", "()I"⟩ prog_14_method_2_code 1 (some .int) :: xk_gd) rm_Model_thrown (xk_Pc D kx_cl (kx_ty ca) (kw_m ad ca) ads xk_F sz [.ref (ad 0)] u) (xk_Qc D kx_cl (kw_m ad ca) ads (xo_i (.inl r)) u') (xk_A ads sz) := by
  unfold fm_Model_thrown at h
  refine xk_con (by decide) htr hok (Nat.le_of_ble_eq_true rfl) (fun p e s m below meth c ls C hne hl hP => ?_)
  have hx := C.1.1
  have hb := C.1.2.1
  have hS : va_S (xk_A ads s.heap.size) s.heap s.heap [] := va_S.rf
  have hl : lv_has ls 1 [(0, .ref (ad 0))] := hl
  refine lv_aload_n hx hb dd_Model_thrown_0 rfl (lv_at hl 0 rfl) ?_
  refine gf_m_Model_0_thrown C hP dd_Model_thrown_1 ?_
  obtain ⟨rfl, rfl⟩ := xp_r h
  exact xr_iret C hP hS dd_Model_thrown_4
abbrev rm_Model_in : Room := { frames := 1, cells := 1, slots := 6, locals := 0 }
noncomputable def fm_Model_in (x0 : Int64) (x1 : Int64) (x2 : Int64) (u : xk_St) : Option (Int32 × xk_St) :=
  if x0 < x1 then (some ((0 : Int32), u)) else (if x2 < x0 then (some ((0 : Int32), u)) else (some ((1 : Int32), u)))
set_option maxHeartbeats 4000000 in
set_option maxRecDepth 100000 in
theorem ct_Model_in {l : Launch} {D : va_G} {ad : Nat → Nat} {ca : Nat → ClassId} {ads : List Nat} (htr : l.stackTraces = false) (hok : xk_ok (kw_m ad ca) ads) {x0 : Int64} {x1 : Int64} {x2 : Int64} {u u' : xk_St} {r : Int32} (h : fm_Model_in x0 x1 x2 u = some (r, u')) :
    ∀ sz, xk_Met l ⟨"ModuleHouseModel", "in", "(JJJ)Z"⟩ (Cond.code ⟨"ModuleHouseModel", "in", "(JJJ)Z"⟩ prog_14_method_20_code 6 (some .boolean) :: xk_gd) rm_Model_in (xk_Pc D kx_cl (kx_ty ca) (kw_m ad ca) ads xk_F sz [.long x0, .long x1, .long x2] u) (xk_Qc D kx_cl (kw_m ad ca) ads (xo_i (.inl r)) u') (xk_A ads sz) := by
  unfold fm_Model_in at h
  refine xk_con (by decide) htr hok (Nat.le_of_ble_eq_true rfl) (fun p e s m below meth c ls C hne hl hP => ?_)
  have hx := C.1.1
  have hb := C.1.2.1
  have hS : va_S (xk_A ads s.heap.size) s.heap s.heap [] := va_S.rf
  have hl : lv_has ls 6 [(0, .long x0), (2, .long x1), (4, .long x2)] := hl
  refine lv_lload_n hx hb dd_Model_in_0 rfl (lv_at hl 0 rfl) ?_
  refine lv_lload_n hx hb dd_Model_in_1 rfl (lv_at hl 1 rfl) ?_
  refine xr_lc_lt (tgt := 17) hx hb dd_Model_in_2 dd_Model_in_3 (by decide) (fun hc => ?_) (fun hc => ?_)
  · have h := xp_t hc h
    refine lv_iconst (v := 0) hx hb dd_Model_in_17 (by decide) ?_
    obtain ⟨rfl, rfl⟩ := xp_r h
    exact xr_zret C hP hS (by decide) dd_Model_in_18
  · have h := xp_f hc h
    refine lv_lload_n hx hb dd_Model_in_6 rfl (lv_at hl 0 rfl) ?_
    refine lv_lload hx hb dd_Model_in_7 (lv_at hl 2 rfl) ?_
    refine xr_lc_gt (tgt := 17) hx hb dd_Model_in_9 dd_Model_in_10 (by decide) (fun hc => ?_) (fun hc => ?_)
    · have h := xp_t hc h
      refine lv_iconst (v := 0) hx hb dd_Model_in_17 (by decide) ?_
      obtain ⟨rfl, rfl⟩ := xp_r h
      exact xr_zret C hP hS (by decide) dd_Model_in_18
    · have h := xp_f hc h
      refine lv_iconst (v := 1) hx hb dd_Model_in_13 (by decide) ?_
      refine lv_goto (tgt := 18) hx hb dd_Model_in_14 (by decide) ?_
      obtain ⟨rfl, rfl⟩ := xp_r h
      exact xr_zret C hP hS (by decide) dd_Model_in_18
abbrev rm_Model_fails : Room := { frames := 1, cells := 1, slots := 6, locals := 0 }
noncomputable def fm_Model_fails (x0 : Int32) (x1 : Int32) (u : xk_St) : Option (Int32 × xk_St) :=
  if x0 = (0 : Int32) then ((xs_let (xs_I u 0 (0 : Int32)) fun u1 => if x0 = 0 ∨ x0 = 1 then some (x0, u1) else none)) else ((xs_let (xs_I u 0 x1) fun u2 => if x0 = 0 ∨ x0 = 1 then some (x0, u2) else none))
set_option maxHeartbeats 4000000 in
set_option maxRecDepth 100000 in
theorem ct_Model_fails {l : Launch} {D : va_G} {ad : Nat → Nat} {ca : Nat → ClassId} {ads : List Nat} (htr : l.stackTraces = false) (hok : xk_ok (kw_m ad ca) ads) {x0 : Int32} {x1 : Int32} {u u' : xk_St} {r : Int32} (h : fm_Model_fails x0 x1 u = some (r, u')) :
    ∀ sz, xk_Met l ⟨"ModuleHouseModel", "fails", "(ZI)Z"⟩ (Cond.code ⟨"ModuleHouseModel", "fails", "(ZI)Z"⟩ prog_14_method_3_code 3 (some .boolean) :: xk_gd) rm_Model_fails (xk_Pc D kx_cl (kx_ty ca) (kw_m ad ca) ads xk_F sz [.ref (ad 0), .int x0, .int x1] u) (xk_Qc D kx_cl (kw_m ad ca) ads (xo_i (.inl r)) u') (xk_A ads sz) := by
  unfold fm_Model_fails at h
  refine xk_con (by decide) htr hok (Nat.le_of_ble_eq_true rfl) (fun p e s m below meth c ls C hne hl hP => ?_)
  have hx := C.1.1
  have hb := C.1.2.1
  have hS : va_S (xk_A ads s.heap.size) s.heap s.heap [] := va_S.rf
  have hl : lv_has ls 3 [(0, .ref (ad 0)), (1, .int x0), (2, .int x1)] := hl
  refine lv_aload_n hx hb dd_Model_fails_0 rfl (lv_at hl 0 rfl) ?_
  refine lv_iload_n hx hb dd_Model_fails_1 rfl (lv_at hl 1 rfl) ?_
  refine lv_if_eq (tgt := 9) hx hb dd_Model_fails_2 (by decide) (fun hc => ?_) (fun hc => ?_)
  · have h := xp_t hc h
    refine lv_iconst (v := 0) hx hb dd_Model_fails_9 (by decide) ?_
    refine pf_m_Model_0_thrown C hP hS dd_Model_fails_10 (fun H locs hP hS => ?_)
    obtain ⟨u1, eu1, h⟩ := xp_let h
    rw [← eu1] at hP
    refine lv_iload_n hx hb dd_Model_fails_13 rfl (lv_at hl 1 rfl) ?_
    obtain ⟨hz, h⟩ := xp_p h
    obtain ⟨rfl, rfl⟩ := xp_r h
    exact xr_zret C hP hS hz dd_Model_fails_14
  · have h := xp_f hc h
    refine lv_iload_n hx hb dd_Model_fails_5 rfl (lv_at hl 2 rfl) ?_
    refine lv_goto (tgt := 10) hx hb dd_Model_fails_6 (by decide) ?_
    refine pf_m_Model_0_thrown C hP hS dd_Model_fails_10 (fun H locs hP hS => ?_)
    obtain ⟨u2, eu2, h⟩ := xp_let h
    rw [← eu2] at hP
    refine lv_iload_n hx hb dd_Model_fails_13 rfl (lv_at hl 1 rfl) ?_
    obtain ⟨hz, h⟩ := xp_p h
    obtain ⟨rfl, rfl⟩ := xp_r h
    exact xr_zret C hP hS hz dd_Model_fails_14
abbrev rm_Model_feed : Room := { frames := 2, cells := 1, slots := 6, locals := 25 }
noncomputable def jb_Model_feed_55 (fu : Nat) : Nat → Int32 → Int64 → Int32 → xk_St → Option (Int32 × xk_St)
  | 0 => fun _ _ _ _ => none
  | n + 1 => fun b1 b2 b4 u =>
    xs_let (jb_Model_feed_55 fu  n) fun k55 =>
    if b1 ≤ b4 then ((xs_let (xs_I u 1 ((u.1 1) + b1)) fun u7 => some ((u7.1 1), u7))) else ((if ((u.1 1) + b4) < 0 ∨ 8192 ≤ ((u.1 1) + b4).toNatClampNeg then none else xs_let (xs_A u 0 ((u.1 1) + b4).toNatClampNeg (vp_nar .byte (((b2 >>> (((8 : Int32) * b4).toInt64 &&& 63)).toInt32).toInt8.toInt32))) fun u8 => xs_let (b4 + (1 : Int32)) fun a9 => k55 b1 b2 a9 u8))
noncomputable def jb_Model_feed_43 (fu : Nat) (b1 : Int32) (b2 : Int64) (s0 : Int32) (u : xk_St) : Option (Int32 × xk_St) :=
  (xs_seq (fm_Model_fails s0 (2 : Int32) u) fun a5 u6 => if a5 = (0 : Int32) then (jb_Model_feed_55 fu fu b1 b2 (0 : Int32) u6) else (some ((0 : Int32), u6)))
noncomputable def jb_Model_feed_18 (fu : Nat) (b1 : Int32) (b2 : Int64) (s0 : Int32) (u : xk_St) : Option (Int32 × xk_St) :=
  (xs_seq (fm_Model_fails s0 (1 : Int32) u) fun a3 u4 => if a3 = (0 : Int32) then (if ((u4.1 1) + b1) ≤ (8192 : Int32) then (jb_Model_feed_43 fu b1 b2 (0 : Int32) u4) else (jb_Model_feed_43 fu b1 b2 (1 : Int32) u4)) else (some ((0 : Int32), u4)))
noncomputable def fm_Model_feed (fu : Nat) (x0 : Int32) (x1 : Int64) (u : xk_St) : Option (Int32 × xk_St) :=
  (xs_seq (fm_Model_in (x0.toInt64) (1 : Int64) (8 : Int64) u) fun a1 u2 => if a1 = (0 : Int32) then (jb_Model_feed_18 fu x0 x1 (1 : Int32) u2) else (jb_Model_feed_18 fu x0 x1 (0 : Int32) u2))
set_option maxHeartbeats 4000000 in
set_option maxRecDepth 100000 in
theorem wj_Model_feed_55 {p : Program} {l : Launch} {e : Env} {s : State} {m : MethodId} {args : Array Value} {below : List Frame} {meth : Method} {c : Code} {D : va_G} {ad : Nat → Nat} {ca : Nat → ClassId} {ads : List Nat} {fu : Nat} (htr : l.stackTraces = false) (C : xk_C D kx_cl (kx_ty ca) (kw_m ad ca) ads "ModuleHouseModel" prog_14_method_136_code 5 (some .int) p e s m args meth c) (hne : c.exceptionTable.isEmpty = true) {u' : xk_St} {r : Int32} : ∀ {n : Nat} {b1 : Int32} {b2 : Int64} {b4 : Int32} {u : xk_St} {H : Heap} {locs : List Loc} {ls : Array Slot} (h : jb_Model_feed_55 fu  n b1 b2 b4 u = some (r, u')) (hP : va_P D kx_cl (kw_m ad ca u) H) (hS : va_S (xk_A ads s.heap.size) s.heap H locs) (hl : lv_has ls 5 [(0, .ref (ad 0)), (1, .int b1), (2, .long b2), (4, .int b4)]), W p l e rm_Model_feed s m args below meth c H locs 0 0 (xk_MQ below (xk_Qc D kx_cl (kw_m ad ca) ads (xo_i (.inl r)) u') args s (xk_A ads s.heap.size)) (F0 m 55 ls []) := by
  intro n
  have hx := C.1.1
  have hb := C.1.2.1
  have hok := C.2.2.1
  induction n with
  | zero =>
    intro _ _ _ u H locs ls h
    have h : none = some (r, u') := h
    cases h
  | succ n ih =>
    intro b1 b2 b4 u H locs ls h hP hS hl
    unfold jb_Model_feed_55 at h
    obtain ⟨k55, ek55, h⟩ := xp_let h
    have hk55 : ∀ (c0 : Int32) (c1 : Int64) (c2 : Int32) (u : xk_St) (H : Heap) (locs : List Loc) (ls : Array Slot), k55 c0 c1 c2 u = some (r, u') → va_P D kx_cl (kw_m ad ca u) H → va_S (xk_A ads s.heap.size) s.heap H locs → lv_has ls 5 [(0, .ref (ad 0)), (1, .int c0), (2, .long c1), (4, .int c2)] → W p l e rm_Model_feed s m args below meth c H locs 0 0 (xk_MQ below (xk_Qc D kx_cl (kw_m ad ca) ads (xo_i (.inl r)) u') args s (xk_A ads s.heap.size)) (F0 m 55 ls []) := by
      intro c0 c1 c2 u H locs ls h hP hS hl
      subst ek55
      exact ih h hP hS hl
    clear ih ek55
    refine lv_iload hx hb dd_Model_feed_55 (lv_at hl 3 rfl) ?_
    refine lv_iload_n hx hb dd_Model_feed_57 rfl (lv_at hl 1 rfl) ?_
    refine lv_icmp_ge (tgt := 88) hx hb dd_Model_feed_58 (by decide) (fun hc => ?_) (fun hc => ?_)
    · have h := xp_t hc h
      refine lv_aload_n hx hb dd_Model_feed_88 rfl (lv_at hl 0 rfl) ?_
      refine lv_dup hx hb dd_Model_feed_89 rfl ?_
      refine gf_m_Model_0_tapeMany C hP dd_Model_feed_90 ?_
      refine lv_iload_n hx hb dd_Model_feed_93 rfl (lv_at hl 1 rfl) ?_
      refine lv_iadd hx hb dd_Model_feed_94 ?_
      refine pf_m_Model_0_tapeMany C hP hS dd_Model_feed_95 (fun H locs hP hS => ?_)
      obtain ⟨u7, eu7, h⟩ := xp_let h
      rw [← eu7] at hP
      refine lv_aload_n hx hb dd_Model_feed_98 rfl (lv_at hl 0 rfl) ?_
      refine gf_m_Model_0_tapeMany C hP dd_Model_feed_99 ?_
      obtain ⟨rfl, rfl⟩ := xp_r h
      exact xr_iret C hP hS dd_Model_feed_102
    · have h := xp_f hc h
      refine lv_aload_n hx hb dd_Model_feed_61 rfl (lv_at hl 0 rfl) ?_
      refine gf_m_Model_0_tape C hP dd_Model_feed_62 ?_
      refine lv_aload_n hx hb dd_Model_feed_65 rfl (lv_at hl 0 rfl) ?_
      refine gf_m_Model_0_tapeMany C hP dd_Model_feed_66 ?_
      refine lv_iload hx hb dd_Model_feed_69 (lv_at hl 3 rfl) ?_
      refine lv_iadd hx hb dd_Model_feed_71 ?_
      refine lv_lload_n hx hb dd_Model_feed_72 rfl (lv_at hl 2 rfl) ?_
      refine lv_bipush (v := 8) hx hb dd_Model_feed_73 (by decide) ?_
      refine lv_iload hx hb dd_Model_feed_75 (lv_at hl 3 rfl) ?_
      refine lv_imul hx hb dd_Model_feed_77 ?_
      refine lv_lshr hx hb dd_Model_feed_78 rfl ?_
      refine lv_l2i hx hb dd_Model_feed_79 rfl ?_
      refine lv_i2b hx hb dd_Model_feed_80 rfl ?_
      obtain ⟨hi, h⟩ := xp_g h
      refine as_m_1 C hP hS hi dd_Model_feed_81 (fun H locs hP hS => ?_)
      obtain ⟨u8, eu8, h⟩ := xp_let h
      rw [← eu8] at hP
      obtain ⟨a9, ea9, h⟩ := xp_let h
      refine lv_iinc (v := a9) (lv' := [(4, .int a9), (0, .ref (ad 0)), (1, .int b1), (2, .long b2)]) hx hb dd_Model_feed_82 hl (k := 3) rfl (by rw [ea9]; first | rfl | decide) (by decide) rfl (fun ls hl => ?_)
      refine lv_goto (tgt := 55) hx hb dd_Model_feed_85 (by decide) ?_
      exact hk55 b1 b2 a9 u8 _ _ _ h hP hS (lv_sub hl [1, 2, 3, 0] rfl)
set_option maxHeartbeats 4000000 in
set_option maxRecDepth 100000 in
theorem wj_Model_feed_43 {p : Program} {l : Launch} {e : Env} {s : State} {m : MethodId} {args : Array Value} {below : List Frame} {meth : Method} {c : Code} {D : va_G} {ad : Nat → Nat} {ca : Nat → ClassId} {ads : List Nat} {fu : Nat} (htr : l.stackTraces = false) (C : xk_C D kx_cl (kx_ty ca) (kw_m ad ca) ads "ModuleHouseModel" prog_14_method_136_code 5 (some .int) p e s m args meth c) (hne : c.exceptionTable.isEmpty = true) {u' : xk_St} {r : Int32} {b1 : Int32} {b2 : Int64} {s0 : Int32} {u : xk_St} {H : Heap} {locs : List Loc} {ls : Array Slot} (h : jb_Model_feed_43 fu  b1 b2 s0 u = some (r, u')) (hP : va_P D kx_cl (kw_m ad ca u) H) (hS : va_S (xk_A ads s.heap.size) s.heap H locs) (hl : lv_has ls 5 [(0, .ref (ad 0)), (1, .int b1), (2, .long b2)]) : W p l e rm_Model_feed s m args below meth c H locs 0 0 (xk_MQ below (xk_Qc D kx_cl (kw_m ad ca) ads (xo_i (.inl r)) u') args s (xk_A ads s.heap.size)) (F0 m 43 ls [.int s0, .ref (ad 0)]) := by
  have hx := C.1.1
  have hb := C.1.2.1
  have hok := C.2.2.1
  unfold jb_Model_feed_43 at h
  refine lv_iconst (v := 2) hx hb dd_Model_feed_43 (by decide) ?_
  obtain ⟨a5, u6, hq, h⟩ := xp_seq h
  refine xk_goesI (xr_V (As := [.int s0, .int (2 : Int32)]) (rest := []) C hP hS (ct_Model_fails htr hok hq) kq_Model_824 0 11 rfl rfl ⟨rfl, rfl, Nat.le_of_ble_eq_true rfl, Nat.le_of_ble_eq_true rfl⟩ ⟨Nat.le_of_ble_eq_true rfl, Nat.le_of_ble_eq_true rfl⟩ hl.1 rfl rfl (Nat.le_of_ble_eq_true rfl) dd_Model_feed_44) hS (fun H locs hP hS => ?_)
  clear hq
  refine lv_if_eq (tgt := 52) hx hb dd_Model_feed_47 (by decide) (fun hc => ?_) (fun hc => ?_)
  · have h := xp_t hc h
    refine lv_iconst (v := 0) hx hb dd_Model_feed_52 (by decide) ?_
    refine lv_istore (lv' := [(4, .int (0 : Int32)), (0, .ref (ad 0)), (1, .int b1), (2, .long b2)]) hx hb dd_Model_feed_53 hl (by decide) rfl (fun ls hl => ?_)
    exact wj_Model_feed_55 htr C hne h hP hS (lv_sub hl [1, 2, 3, 0] rfl)
  · have h := xp_f hc h
    refine lv_iconst (v := 0) hx hb dd_Model_feed_50 (by decide) ?_
    obtain ⟨rfl, rfl⟩ := xp_r h
    exact xr_iret C hP hS dd_Model_feed_51
set_option maxHeartbeats 4000000 in
set_option maxRecDepth 100000 in
theorem wj_Model_feed_18 {p : Program} {l : Launch} {e : Env} {s : State} {m : MethodId} {args : Array Value} {below : List Frame} {meth : Method} {c : Code} {D : va_G} {ad : Nat → Nat} {ca : Nat → ClassId} {ads : List Nat} {fu : Nat} (htr : l.stackTraces = false) (C : xk_C D kx_cl (kx_ty ca) (kw_m ad ca) ads "ModuleHouseModel" prog_14_method_136_code 5 (some .int) p e s m args meth c) (hne : c.exceptionTable.isEmpty = true) {u' : xk_St} {r : Int32} {b1 : Int32} {b2 : Int64} {s0 : Int32} {u : xk_St} {H : Heap} {locs : List Loc} {ls : Array Slot} (h : jb_Model_feed_18 fu  b1 b2 s0 u = some (r, u')) (hP : va_P D kx_cl (kw_m ad ca u) H) (hS : va_S (xk_A ads s.heap.size) s.heap H locs) (hl : lv_has ls 5 [(0, .ref (ad 0)), (1, .int b1), (2, .long b2)]) : W p l e rm_Model_feed s m args below meth c H locs 0 0 (xk_MQ below (xk_Qc D kx_cl (kw_m ad ca) ads (xo_i (.inl r)) u') args s (xk_A ads s.heap.size)) (F0 m 18 ls [.int s0, .ref (ad 0)]) := by
  have hx := C.1.1
  have hb := C.1.2.1
  have hok := C.2.2.1
  unfold jb_Model_feed_18 at h
  refine lv_iconst (v := 1) hx hb dd_Model_feed_18 (by decide) ?_
  obtain ⟨a3, u4, hq, h⟩ := xp_seq h
  refine xk_goesI (xr_V (As := [.int s0, .int (1 : Int32)]) (rest := []) C hP hS (ct_Model_fails htr hok hq) kq_Model_824 0 11 rfl rfl ⟨rfl, rfl, Nat.le_of_ble_eq_true rfl, Nat.le_of_ble_eq_true rfl⟩ ⟨Nat.le_of_ble_eq_true rfl, Nat.le_of_ble_eq_true rfl⟩ hl.1 rfl rfl (Nat.le_of_ble_eq_true rfl) dd_Model_feed_19) hS (fun H locs hP hS => ?_)
  clear hq
  refine lv_if_ne (tgt := 50) hx hb dd_Model_feed_22 (by decide) (fun hc => ?_) (fun hc => ?_)
  · have h := xp_f hc h
    refine lv_iconst (v := 0) hx hb dd_Model_feed_50 (by decide) ?_
    obtain ⟨rfl, rfl⟩ := xp_r h
    exact xr_iret C hP hS dd_Model_feed_51
  · have h := xp_t hc h
    refine lv_aload_n hx hb dd_Model_feed_25 rfl (lv_at hl 0 rfl) ?_
    refine lv_aload_n hx hb dd_Model_feed_26 rfl (lv_at hl 0 rfl) ?_
    refine gf_m_Model_0_tapeMany C hP dd_Model_feed_27 ?_
    refine lv_iload_n hx hb dd_Model_feed_30 rfl (lv_at hl 1 rfl) ?_
    refine lv_iadd hx hb dd_Model_feed_31 ?_
    refine lv_sipush (v := 8192) hx hb dd_Model_feed_32 (by decide) ?_
    refine lv_icmp_le (tgt := 42) hx hb dd_Model_feed_35 (by decide) (fun hc => ?_) (fun hc => ?_)
    · have h := xp_t hc h
      refine lv_iconst (v := 0) hx hb dd_Model_feed_42 (by decide) ?_
      exact wj_Model_feed_43 htr C hne h hP hS (lv_sub hl [0, 1, 2] rfl)
    · have h := xp_f hc h
      refine lv_iconst (v := 1) hx hb dd_Model_feed_38 (by decide) ?_
      refine lv_goto (tgt := 43) hx hb dd_Model_feed_39 (by decide) ?_
      exact wj_Model_feed_43 htr C hne h hP hS (lv_sub hl [0, 1, 2] rfl)
set_option maxHeartbeats 4000000 in
set_option maxRecDepth 100000 in
theorem ct_Model_feed {l : Launch} {D : va_G} {ad : Nat → Nat} {ca : Nat → ClassId} {ads : List Nat} (htr : l.stackTraces = false) (hok : xk_ok (kw_m ad ca) ads) {fu : Nat} {x0 : Int32} {x1 : Int64} {u u' : xk_St} {r : Int32} (h : fm_Model_feed fu x0 x1 u = some (r, u')) :
    ∀ sz, xk_Met l ⟨"ModuleHouseModel", "feed", "(IJ)I"⟩ (Cond.code ⟨"ModuleHouseModel", "feed", "(IJ)I"⟩ prog_14_method_136_code 5 (some .int) :: xk_gd) rm_Model_feed (xk_Pc D kx_cl (kx_ty ca) (kw_m ad ca) ads xk_F sz [.ref (ad 0), .int x0, .long x1] u) (xk_Qc D kx_cl (kw_m ad ca) ads (xo_i (.inl r)) u') (xk_A ads sz) := by
  unfold fm_Model_feed at h
  refine xk_con (by decide) htr hok (Nat.le_of_ble_eq_true rfl) (fun p e s m below meth c ls C hne hl hP => ?_)
  have hx := C.1.1
  have hb := C.1.2.1
  have hS : va_S (xk_A ads s.heap.size) s.heap s.heap [] := va_S.rf
  have hl : lv_has ls 5 [(0, .ref (ad 0)), (1, .int x0), (2, .long x1)] := hl
  refine lv_aload_n hx hb dd_Model_feed_0 rfl (lv_at hl 0 rfl) ?_
  refine lv_iload_n hx hb dd_Model_feed_1 rfl (lv_at hl 1 rfl) ?_
  refine lv_i2l hx hb dd_Model_feed_2 rfl ?_
  refine lv_lconst (v := 1) hx hb dd_Model_feed_3 (by decide) ?_
  refine lv_ldc2 (v := 8) hx hb C.1.2.2.2.1 (C.1.2.2.2.2 _ (xk_c9 (w := Jvm.Cond.constantLong "ModuleHouseModel" 822 8) 68 rfl rfl)) dd_Model_feed_4 ?_
  obtain ⟨a1, u2, hq, h⟩ := xp_seq h
  refine xk_goesI (xr_S (As := [.long (x0.toInt64), .long (1 : Int64), .long (8 : Int64)]) (rest := [.ref (ad 0)]) C hP hS (ct_Model_in htr hok hq) kq_Model_219 ⟨rfl, rfl, Nat.le_of_ble_eq_true rfl, Nat.le_of_ble_eq_true rfl⟩ ⟨Nat.le_of_ble_eq_true rfl, Nat.le_of_ble_eq_true rfl⟩ hl.1 rfl rfl (Nat.le_of_ble_eq_true rfl) dd_Model_feed_7) hS (fun H locs hP hS => ?_)
  clear hq
  refine lv_if_ne (tgt := 17) hx hb dd_Model_feed_10 (by decide) (fun hc => ?_) (fun hc => ?_)
  · have h := xp_f hc h
    refine lv_iconst (v := 0) hx hb dd_Model_feed_17 (by decide) ?_
    exact wj_Model_feed_18 htr C hne h hP hS (lv_sub hl [0, 1, 2] rfl)
  · have h := xp_t hc h
    refine lv_iconst (v := 1) hx hb dd_Model_feed_13 (by decide) ?_
    refine lv_goto (tgt := 18) hx hb dd_Model_feed_14 (by decide) ?_
    exact wj_Model_feed_18 htr C hne h hP hS (lv_sub hl [0, 1, 2] rfl)
abbrev rm_Model_fail : Room := { frames := 1, cells := 1, slots := 6, locals := 0 }
noncomputable def fm_Model_fail (x0 : Int32) (u : xk_St) : Option (Unit × xk_St) :=
  if (u.1 6) = (0 : Int32) then ((xs_let (xs_I u 6 x0) fun u2 => some ((()), u2))) else ((xs_let (xs_I u 6 (u.1 6)) fun u1 => some ((()), u1)))
set_option maxHeartbeats 4000000 in
set_option maxRecDepth 100000 in
theorem ct_Model_fail {l : Launch} {D : va_G} {ad : Nat → Nat} {ca : Nat → ClassId} {ads : List Nat} (htr : l.stackTraces = false) (hok : xk_ok (kw_m ad ca) ads) {x0 : Int32} {u u' : xk_St} {r : Unit} (h : fm_Model_fail x0 u = some (r, u')) :
    ∀ sz, xk_Met l ⟨"ModuleHouseModel", "fail", "(I)V"⟩ (Cond.code ⟨"ModuleHouseModel", "fail", "(I)V"⟩ prog_14_method_8_code 2 none :: xk_gd) rm_Model_fail (xk_Pc D kx_cl (kx_ty ca) (kw_m ad ca) ads xk_F sz [.ref (ad 0), .int x0] u) (xk_Qc D kx_cl (kw_m ad ca) ads (xo_v (.inl r)) u') (xk_A ads sz) := by
  unfold fm_Model_fail at h
  refine xk_con (by decide) htr hok (Nat.le_of_ble_eq_true rfl) (fun p e s m below meth c ls C hne hl hP => ?_)
  have hx := C.1.1
  have hb := C.1.2.1
  have hS : va_S (xk_A ads s.heap.size) s.heap s.heap [] := va_S.rf
  have hl : lv_has ls 2 [(0, .ref (ad 0)), (1, .int x0)] := hl
  refine lv_aload_n hx hb dd_Model_fail_0 rfl (lv_at hl 0 rfl) ?_
  refine lv_aload_n hx hb dd_Model_fail_1 rfl (lv_at hl 0 rfl) ?_
  refine gf_m_Model_0_bad C hP dd_Model_fail_2 ?_
  refine lv_if_ne (tgt := 12) hx hb dd_Model_fail_5 (by decide) (fun hc => ?_) (fun hc => ?_)
  · have h := xp_f hc h
    refine lv_aload_n hx hb dd_Model_fail_12 rfl (lv_at hl 0 rfl) ?_
    refine gf_m_Model_0_bad C hP dd_Model_fail_13 ?_
    refine pf_m_Model_0_bad C hP hS dd_Model_fail_16 (fun H locs hP hS => ?_)
    obtain ⟨u1, eu1, h⟩ := xp_let h
    rw [← eu1] at hP
    obtain ⟨rfl, rfl⟩ := xp_r h
    exact xr_vret C hP hS dd_Model_fail_19
  · have h := xp_t hc h
    refine lv_iload_n hx hb dd_Model_fail_8 rfl (lv_at hl 1 rfl) ?_
    refine lv_goto (tgt := 16) hx hb dd_Model_fail_9 (by decide) ?_
    refine pf_m_Model_0_bad C hP hS dd_Model_fail_16 (fun H locs hP hS => ?_)
    obtain ⟨u2, eu2, h⟩ := xp_let h
    rw [← eu2] at hP
    obtain ⟨rfl, rfl⟩ := xp_r h
    exact xr_vret C hP hS dd_Model_fail_19
abbrev rm_Model_one : Room := { frames := 2, cells := 1, slots := 6, locals := 21 }
noncomputable def jb_Model_one_18 (u : xk_St) : Option (Int32 × xk_St) :=
  (xs_seq (fm_Model_fail (-1 : Int32) u) fun _ u1 => some ((0 : Int32), u1))
noncomputable def fm_Model_one (u : xk_St) : Option (Int32 × xk_St) :=
  if (u.1 6) = (0 : Int32) then (if (u.1 4) < (u.1 5) then ((xs_let (xs_I u 4 ((u.1 4) + (1 : Int32))) fun u2 => if ((u2.1 4) - (1 : Int32)) < 0 ∨ 8192 ≤ ((u2.1 4) - (1 : Int32)).toNatClampNeg then none else some (((u2.2.2.1 1 ((u2.1 4) - (1 : Int32)).toNatClampNeg) &&& (255 : Int32)), u2))) else (jb_Model_one_18 u)) else (jb_Model_one_18 u)
set_option maxHeartbeats 4000000 in
set_option maxRecDepth 100000 in
theorem wj_Model_one_18 {p : Program} {l : Launch} {e : Env} {s : State} {m : MethodId} {args : Array Value} {below : List Frame} {meth : Method} {c : Code} {D : va_G} {ad : Nat → Nat} {ca : Nat → ClassId} {ads : List Nat} (htr : l.stackTraces = false) (C : xk_C D kx_cl (kx_ty ca) (kw_m ad ca) ads "ModuleHouseModel" prog_14_method_9_code 1 (some .int) p e s m args meth c) (hne : c.exceptionTable.isEmpty = true) {u' : xk_St} {r : Int32} {u : xk_St} {H : Heap} {locs : List Loc} {ls : Array Slot} (h : jb_Model_one_18   u = some (r, u')) (hP : va_P D kx_cl (kw_m ad ca u) H) (hS : va_S (xk_A ads s.heap.size) s.heap H locs) (hl : lv_has ls 1 [(0, .ref (ad 0))]) : W p l e rm_Model_one s m args below meth c H locs 0 0 (xk_MQ below (xk_Qc D kx_cl (kw_m ad ca) ads (xo_i (.inl r)) u') args s (xk_A ads s.heap.size)) (F0 m 18 ls []) := by
  have hx := C.1.1
  have hb := C.1.2.1
  have hok := C.2.2.1
  unfold jb_Model_one_18 at h
  refine lv_aload_n hx hb dd_Model_one_18 rfl (lv_at hl 0 rfl) ?_
  refine lv_iconst (v := (-1)) hx hb dd_Model_one_19 (by decide) ?_
  obtain ⟨rx, u1, hq, h⟩ := xp_seq h
  refine xk_goesV (xr_V (As := [.int (-1 : Int32)]) (rest := []) C hP hS (ct_Model_fail htr hok hq) kq_Model_174 0 11 rfl rfl ⟨rfl, rfl, Nat.le_of_ble_eq_true rfl, Nat.le_of_ble_eq_true rfl⟩ ⟨Nat.le_of_ble_eq_true rfl, Nat.le_of_ble_eq_true rfl⟩ hl.1 rfl rfl (Nat.le_of_ble_eq_true rfl) dd_Model_one_20) hS (fun H locs hP hS => ?_)
  clear hq
  refine lv_iconst (v := 0) hx hb dd_Model_one_23 (by decide) ?_
  obtain ⟨rfl, rfl⟩ := xp_r h
  exact xr_iret C hP hS dd_Model_one_24
set_option maxHeartbeats 4000000 in
set_option maxRecDepth 100000 in
theorem ct_Model_one {l : Launch} {D : va_G} {ad : Nat → Nat} {ca : Nat → ClassId} {ads : List Nat} (htr : l.stackTraces = false) (hok : xk_ok (kw_m ad ca) ads) {u u' : xk_St} {r : Int32} (h : fm_Model_one u = some (r, u')) :
    ∀ sz, xk_Met l ⟨"ModuleHouseModel", "one", "()I"⟩ (Cond.code ⟨"ModuleHouseModel", "one", "()I"⟩ prog_14_method_9_code 1 (some .int) :: xk_gd) rm_Model_one (xk_Pc D kx_cl (kx_ty ca) (kw_m ad ca) ads xk_F sz [.ref (ad 0)] u) (xk_Qc D kx_cl (kw_m ad ca) ads (xo_i (.inl r)) u') (xk_A ads sz) := by
  unfold fm_Model_one at h
  refine xk_con (by decide) htr hok (Nat.le_of_ble_eq_true rfl) (fun p e s m below meth c ls C hne hl hP => ?_)
  have hx := C.1.1
  have hb := C.1.2.1
  have hS : va_S (xk_A ads s.heap.size) s.heap s.heap [] := va_S.rf
  have hl : lv_has ls 1 [(0, .ref (ad 0))] := hl
  refine lv_aload_n hx hb dd_Model_one_0 rfl (lv_at hl 0 rfl) ?_
  refine gf_m_Model_0_bad C hP dd_Model_one_1 ?_
  refine lv_if_ne (tgt := 18) hx hb dd_Model_one_4 (by decide) (fun hc => ?_) (fun hc => ?_)
  · have h := xp_f hc h
    exact wj_Model_one_18 htr C hne h hP hS (lv_sub hl [0] rfl)
  · have h := xp_t hc h
    refine lv_aload_n hx hb dd_Model_one_7 rfl (lv_at hl 0 rfl) ?_
    refine gf_m_Model_0_at C hP dd_Model_one_8 ?_
    refine lv_aload_n hx hb dd_Model_one_11 rfl (lv_at hl 0 rfl) ?_
    refine gf_m_Model_0_limit C hP dd_Model_one_12 ?_
    refine lv_icmp_lt (tgt := 25) hx hb dd_Model_one_15 (by decide) (fun hc => ?_) (fun hc => ?_)
    · have h := xp_t hc h
      refine lv_aload_n hx hb dd_Model_one_25 rfl (lv_at hl 0 rfl) ?_
      refine lv_dup hx hb dd_Model_one_26 rfl ?_
      refine gf_m_Model_0_at C hP dd_Model_one_27 ?_
      refine lv_iconst (v := 1) hx hb dd_Model_one_30 (by decide) ?_
      refine lv_iadd hx hb dd_Model_one_31 ?_
      refine pf_m_Model_0_at C hP hS dd_Model_one_32 (fun H locs hP hS => ?_)
      obtain ⟨u2, eu2, h⟩ := xp_let h
      rw [← eu2] at hP
      refine lv_aload_n hx hb dd_Model_one_35 rfl (lv_at hl 0 rfl) ?_
      refine gf_m_Model_0_code C hP dd_Model_one_36 ?_
      refine lv_aload_n hx hb dd_Model_one_39 rfl (lv_at hl 0 rfl) ?_
      refine gf_m_Model_0_at C hP dd_Model_one_40 ?_
      refine lv_iconst (v := 1) hx hb dd_Model_one_43 (by decide) ?_
      refine lv_isub hx hb dd_Model_one_44 ?_
      obtain ⟨hi, h⟩ := xp_g h
      refine al_m_3 C hP hi dd_Model_one_45 ?_
      refine lv_sipush (v := 255) hx hb dd_Model_one_46 (by decide) ?_
      refine lv_iand hx hb dd_Model_one_49 ?_
      obtain ⟨rfl, rfl⟩ := xp_r h
      exact xr_iret C hP hS dd_Model_one_50
    · have h := xp_f hc h
      exact wj_Model_one_18 htr C hne h hP hS (lv_sub hl [0] rfl)
abbrev rm_Model_number : Room := { frames := 3, cells := 1, slots := 6, locals := 41 }
noncomputable def jb_Model_number_65 (fu : Nat) (b1 : Int64) (u : xk_St) : Option (Int64 × xk_St) :=
  if (u.1 6) = (0 : Int32) then (some (b1, u)) else (some ((0 : Int64), u))
noncomputable def jb_Model_number_60 (fu : Nat) (b1 : Int64) (u : xk_St) : Option (Int64 × xk_St) :=
  (xs_seq (fm_Model_fail (-1 : Int32) u) fun _ u1 => jb_Model_number_65 fu b1 u1)
noncomputable def jb_Model_number_46 (fu : Nat) (b1 : Int64) (b3 : Int32) (u : xk_St) : Option (Int64 × xk_St) :=
  if (127 : Int32) < b3 then (jb_Model_number_60 fu b1 u) else (if b1 ≤ (4294967295 : Int64) then (jb_Model_number_65 fu b1 u) else (jb_Model_number_60 fu b1 u))
noncomputable def jb_Model_number_9 (fu : Nat) : Nat → Int64 → Int32 → Int32 → xk_St → Option (Int64 × xk_St)
  | 0 => fun _ _ _ _ => none
  | n + 1 => fun b1 b3 b4 u =>
    xs_let (jb_Model_number_9 fu  n) fun k9 =>
    if (5 : Int32) ≤ b4 then (jb_Model_number_46 fu b1 b3 u) else (if b3 ≤ (127 : Int32) then (jb_Model_number_46 fu b1 b3 u) else ((xs_seq (fm_Model_one u) fun a2 u3 => xs_let (b1 ||| (((a2 &&& (127 : Int32)).toInt64) <<< (((7 : Int32) * b4).toInt64 &&& 63))) fun a4 => xs_let (b4 + (1 : Int32)) fun a5 => k9 a4 a2 a5 u3)))
noncomputable def fm_Model_number (fu : Nat) (u : xk_St) : Option (Int64 × xk_St) :=
  jb_Model_number_9 fu fu (0 : Int64) (128 : Int32) (0 : Int32) u
set_option maxHeartbeats 4000000 in
set_option maxRecDepth 100000 in
theorem wj_Model_number_65 {p : Program} {l : Launch} {e : Env} {s : State} {m : MethodId} {args : Array Value} {below : List Frame} {meth : Method} {c : Code} {D : va_G} {ad : Nat → Nat} {ca : Nat → ClassId} {ads : List Nat} {fu : Nat} (htr : l.stackTraces = false) (C : xk_C D kx_cl (kx_ty ca) (kw_m ad ca) ads "ModuleHouseModel" prog_14_method_11_code 5 (some .long) p e s m args meth c) (hne : c.exceptionTable.isEmpty = true) {u' : xk_St} {r : Int64} {b1 : Int64} {u : xk_St} {H : Heap} {locs : List Loc} {ls : Array Slot} (h : jb_Model_number_65 fu  b1 u = some (r, u')) (hP : va_P D kx_cl (kw_m ad ca u) H) (hS : va_S (xk_A ads s.heap.size) s.heap H locs) (hl : lv_has ls 5 [(0, .ref (ad 0)), (1, .long b1)]) : W p l e rm_Model_number s m args below meth c H locs 0 0 (xk_MQ below (xk_Qc D kx_cl (kw_m ad ca) ads (xo_l (.inl r)) u') args s (xk_A ads s.heap.size)) (F0 m 65 ls []) := by
  have hx := C.1.1
  have hb := C.1.2.1
  have hok := C.2.2.1
  unfold jb_Model_number_65 at h
  refine lv_aload_n hx hb dd_Model_number_65 rfl (lv_at hl 0 rfl) ?_
  refine gf_m_Model_0_bad C hP dd_Model_number_66 ?_
  refine lv_if_ne (tgt := 76) hx hb dd_Model_number_69 (by decide) (fun hc => ?_) (fun hc => ?_)
  · have h := xp_f hc h
    refine lv_lconst (v := 0) hx hb dd_Model_number_76 (by decide) ?_
    obtain ⟨rfl, rfl⟩ := xp_r h
    exact xr_lret C hP hS dd_Model_number_77
  · have h := xp_t hc h
    refine lv_lload_n hx hb dd_Model_number_72 rfl (lv_at hl 1 rfl) ?_
    refine lv_goto (tgt := 77) hx hb dd_Model_number_73 (by decide) ?_
    obtain ⟨rfl, rfl⟩ := xp_r h
    exact xr_lret C hP hS dd_Model_number_77
set_option maxHeartbeats 4000000 in
set_option maxRecDepth 100000 in
theorem wj_Model_number_60 {p : Program} {l : Launch} {e : Env} {s : State} {m : MethodId} {args : Array Value} {below : List Frame} {meth : Method} {c : Code} {D : va_G} {ad : Nat → Nat} {ca : Nat → ClassId} {ads : List Nat} {fu : Nat} (htr : l.stackTraces = false) (C : xk_C D kx_cl (kx_ty ca) (kw_m ad ca) ads "ModuleHouseModel" prog_14_method_11_code 5 (some .long) p e s m args meth c) (hne : c.exceptionTable.isEmpty = true) {u' : xk_St} {r : Int64} {b1 : Int64} {u : xk_St} {H : Heap} {locs : List Loc} {ls : Array Slot} (h : jb_Model_number_60 fu  b1 u = some (r, u')) (hP : va_P D kx_cl (kw_m ad ca u) H) (hS : va_S (xk_A ads s.heap.size) s.heap H locs) (hl : lv_has ls 5 [(0, .ref (ad 0)), (1, .long b1)]) : W p l e rm_Model_number s m args below meth c H locs 0 0 (xk_MQ below (xk_Qc D kx_cl (kw_m ad ca) ads (xo_l (.inl r)) u') args s (xk_A ads s.heap.size)) (F0 m 60 ls []) := by
  have hx := C.1.1
  have hb := C.1.2.1
  have hok := C.2.2.1
  unfold jb_Model_number_60 at h
  refine lv_aload_n hx hb dd_Model_number_60 rfl (lv_at hl 0 rfl) ?_
  refine lv_iconst (v := (-1)) hx hb dd_Model_number_61 (by decide) ?_
  obtain ⟨rx, u1, hq, h⟩ := xp_seq h
  refine xk_goesV (xr_V (As := [.int (-1 : Int32)]) (rest := []) C hP hS (ct_Model_fail htr hok hq) kq_Model_174 0 11 rfl rfl ⟨rfl, rfl, Nat.le_of_ble_eq_true rfl, Nat.le_of_ble_eq_true rfl⟩ ⟨Nat.le_of_ble_eq_true rfl, Nat.le_of_ble_eq_true rfl⟩ hl.1 rfl rfl (Nat.le_of_ble_eq_true rfl) dd_Model_number_62) hS (fun H locs hP hS => ?_)
  clear hq
  exact wj_Model_number_65 htr C hne h hP hS (lv_sub hl [0, 1] rfl)
set_option maxHeartbeats 4000000 in
set_option maxRecDepth 100000 in
theorem wj_Model_number_46 {p : Program} {l : Launch} {e : Env} {s : State} {m : MethodId} {args : Array Value} {below : List Frame} {meth : Method} {c : Code} {D : va_G} {ad : Nat → Nat} {ca : Nat → ClassId} {ads : List Nat} {fu : Nat} (htr : l.stackTraces = false) (C : xk_C D kx_cl (kx_ty ca) (kw_m ad ca) ads "ModuleHouseModel" prog_14_method_11_code 5 (some .long) p e s m args meth c) (hne : c.exceptionTable.isEmpty = true) {u' : xk_St} {r : Int64} {b1 : Int64} {b3 : Int32} {u : xk_St} {H : Heap} {locs : List Loc} {ls : Array Slot} (h : jb_Model_number_46 fu  b1 b3 u = some (r, u')) (hP : va_P D kx_cl (kw_m ad ca u) H) (hS : va_S (xk_A ads s.heap.size) s.heap H locs) (hl : lv_has ls 5 [(0, .ref (ad 0)), (1, .long b1), (3, .int b3)]) : W p l e rm_Model_number s m args below meth c H locs 0 0 (xk_MQ below (xk_Qc D kx_cl (kw_m ad ca) ads (xo_l (.inl r)) u') args s (xk_A ads s.heap.size)) (F0 m 46 ls []) := by
  have hx := C.1.1
  have hb := C.1.2.1
  have hok := C.2.2.1
  unfold jb_Model_number_46 at h
  refine lv_iload_n hx hb dd_Model_number_46 rfl (lv_at hl 2 rfl) ?_
  refine lv_bipush (v := 127) hx hb dd_Model_number_47 (by decide) ?_
  refine lv_icmp_gt (tgt := 60) hx hb dd_Model_number_49 (by decide) (fun hc => ?_) (fun hc => ?_)
  · have h := xp_t hc h
    exact wj_Model_number_60 htr C hne h hP hS (lv_sub hl [0, 1] rfl)
  · have h := xp_f hc h
    refine lv_lload_n hx hb dd_Model_number_52 rfl (lv_at hl 1 rfl) ?_
    refine lv_ldc2 (v := 4294967295) hx hb C.1.2.2.2.1 (C.1.2.2.2.2 _ (xk_c9 (w := Jvm.Cond.constantLong "ModuleHouseModel" 182 4294967295) 103 rfl rfl)) dd_Model_number_53 ?_
    refine xr_lc_le (tgt := 65) hx hb dd_Model_number_56 dd_Model_number_57 (by decide) (fun hc => ?_) (fun hc => ?_)
    · have h := xp_t hc h
      exact wj_Model_number_65 htr C hne h hP hS (lv_sub hl [0, 1] rfl)
    · have h := xp_f hc h
      exact wj_Model_number_60 htr C hne h hP hS (lv_sub hl [0, 1] rfl)
set_option maxHeartbeats 4000000 in
set_option maxRecDepth 100000 in
theorem wj_Model_number_9 {p : Program} {l : Launch} {e : Env} {s : State} {m : MethodId} {args : Array Value} {below : List Frame} {meth : Method} {c : Code} {D : va_G} {ad : Nat → Nat} {ca : Nat → ClassId} {ads : List Nat} {fu : Nat} (htr : l.stackTraces = false) (C : xk_C D kx_cl (kx_ty ca) (kw_m ad ca) ads "ModuleHouseModel" prog_14_method_11_code 5 (some .long) p e s m args meth c) (hne : c.exceptionTable.isEmpty = true) {u' : xk_St} {r : Int64} : ∀ {n : Nat} {b1 : Int64} {b3 : Int32} {b4 : Int32} {u : xk_St} {H : Heap} {locs : List Loc} {ls : Array Slot} (h : jb_Model_number_9 fu  n b1 b3 b4 u = some (r, u')) (hP : va_P D kx_cl (kw_m ad ca u) H) (hS : va_S (xk_A ads s.heap.size) s.heap H locs) (hl : lv_has ls 5 [(0, .ref (ad 0)), (1, .long b1), (3, .int b3), (4, .int b4)]), W p l e rm_Model_number s m args below meth c H locs 0 0 (xk_MQ below (xk_Qc D kx_cl (kw_m ad ca) ads (xo_l (.inl r)) u') args s (xk_A ads s.heap.size)) (F0 m 9 ls []) := by
  intro n
  have hx := C.1.1
  have hb := C.1.2.1
  have hok := C.2.2.1
  induction n with
  | zero =>
    intro _ _ _ u H locs ls h
    have h : none = some (r, u') := h
    cases h
  | succ n ih =>
    intro b1 b3 b4 u H locs ls h hP hS hl
    unfold jb_Model_number_9 at h
    obtain ⟨k9, ek9, h⟩ := xp_let h
    have hk9 : ∀ (c0 : Int64) (c1 : Int32) (c2 : Int32) (u : xk_St) (H : Heap) (locs : List Loc) (ls : Array Slot), k9 c0 c1 c2 u = some (r, u') → va_P D kx_cl (kw_m ad ca u) H → va_S (xk_A ads s.heap.size) s.heap H locs → lv_has ls 5 [(0, .ref (ad 0)), (1, .long c0), (3, .int c1), (4, .int c2)] → W p l e rm_Model_number s m args below meth c H locs 0 0 (xk_MQ below (xk_Qc D kx_cl (kw_m ad ca) ads (xo_l (.inl r)) u') args s (xk_A ads s.heap.size)) (F0 m 9 ls []) := by
      intro c0 c1 c2 u H locs ls h hP hS hl
      subst ek9
      exact ih h hP hS hl
    clear ih ek9
    refine lv_iload hx hb dd_Model_number_9 (lv_at hl 3 rfl) ?_
    refine lv_iconst (v := 5) hx hb dd_Model_number_11 (by decide) ?_
    refine lv_icmp_ge (tgt := 46) hx hb dd_Model_number_12 (by decide) (fun hc => ?_) (fun hc => ?_)
    · have h := xp_t hc h
      exact wj_Model_number_46 htr C hne h hP hS (lv_sub hl [0, 1, 2] rfl)
    · have h := xp_f hc h
      refine lv_iload_n hx hb dd_Model_number_15 rfl (lv_at hl 2 rfl) ?_
      refine lv_bipush (v := 127) hx hb dd_Model_number_16 (by decide) ?_
      refine lv_icmp_le (tgt := 46) hx hb dd_Model_number_18 (by decide) (fun hc => ?_) (fun hc => ?_)
      · have h := xp_t hc h
        exact wj_Model_number_46 htr C hne h hP hS (lv_sub hl [0, 1, 2] rfl)
      · have h := xp_f hc h
        refine lv_aload_n hx hb dd_Model_number_21 rfl (lv_at hl 0 rfl) ?_
        obtain ⟨a2, u3, hq, h⟩ := xp_seq h
        refine xk_goesI (xr_V (As := []) (rest := []) C hP hS (ct_Model_one htr hok hq) kq_Model_178 0 11 rfl rfl ⟨rfl, rfl, Nat.le_of_ble_eq_true rfl, Nat.le_of_ble_eq_true rfl⟩ ⟨Nat.le_of_ble_eq_true rfl, Nat.le_of_ble_eq_true rfl⟩ hl.1 rfl rfl (Nat.le_of_ble_eq_true rfl) dd_Model_number_22) hS (fun H locs hP hS => ?_)
        clear hq
        refine lv_istore_n (lv' := [(3, .int a2), (0, .ref (ad 0)), (1, .long b1), (4, .int b4)]) hx hb dd_Model_number_25 rfl hl (by decide) rfl (fun ls hl => ?_)
        refine lv_lload_n hx hb dd_Model_number_26 rfl (lv_at hl 2 rfl) ?_
        refine lv_iload_n hx hb dd_Model_number_27 rfl (lv_at hl 0 rfl) ?_
        refine lv_bipush (v := 127) hx hb dd_Model_number_28 (by decide) ?_
        refine lv_iand hx hb dd_Model_number_30 ?_
        refine lv_i2l hx hb dd_Model_number_31 rfl ?_
        refine lv_bipush (v := 7) hx hb dd_Model_number_32 (by decide) ?_
        refine lv_iload hx hb dd_Model_number_34 (lv_at hl 3 rfl) ?_
        refine lv_imul hx hb dd_Model_number_36 ?_
        refine lv_lshl hx hb dd_Model_number_37 rfl ?_
        refine lv_lor hx hb dd_Model_number_38 ?_
        obtain ⟨a4, ea4, h⟩ := xp_let h
        refine xr_naml ea4 ?_
        refine lv_lstore_n (lv' := [(1, .long a4), (3, .int a2), (0, .ref (ad 0)), (4, .int b4)]) hx hb dd_Model_number_39 rfl hl (by decide) rfl (fun ls hl => ?_)
        obtain ⟨a5, ea5, h⟩ := xp_let h
        refine lv_iinc (v := a5) (lv' := [(4, .int a5), (1, .long a4), (3, .int a2), (0, .ref (ad 0))]) hx hb dd_Model_number_40 hl (k := 3) rfl (by rw [ea5]; first | rfl | decide) (by decide) rfl (fun ls hl => ?_)
        refine lv_goto (tgt := 9) hx hb dd_Model_number_43 (by decide) ?_
        exact hk9 a4 a2 a5 u3 _ _ _ h hP hS (lv_sub hl [3, 1, 2, 0] rfl)
set_option maxHeartbeats 4000000 in
set_option maxRecDepth 100000 in
theorem ct_Model_number {l : Launch} {D : va_G} {ad : Nat → Nat} {ca : Nat → ClassId} {ads : List Nat} (htr : l.stackTraces = false) (hok : xk_ok (kw_m ad ca) ads) {fu : Nat} {u u' : xk_St} {r : Int64} (h : fm_Model_number fu u = some (r, u')) :
    ∀ sz, xk_Met l ⟨"ModuleHouseModel", "number", "()J"⟩ (Cond.code ⟨"ModuleHouseModel", "number", "()J"⟩ prog_14_method_11_code 5 (some .long) :: xk_gd) rm_Model_number (xk_Pc D kx_cl (kx_ty ca) (kw_m ad ca) ads xk_F sz [.ref (ad 0)] u) (xk_Qc D kx_cl (kw_m ad ca) ads (xo_l (.inl r)) u') (xk_A ads sz) := by
  unfold fm_Model_number at h
  refine xk_con (by decide) htr hok (Nat.le_of_ble_eq_true rfl) (fun p e s m below meth c ls C hne hl hP => ?_)
  have hx := C.1.1
  have hb := C.1.2.1
  have hS : va_S (xk_A ads s.heap.size) s.heap s.heap [] := va_S.rf
  have hl : lv_has ls 5 [(0, .ref (ad 0))] := hl
  refine lv_lconst (v := 0) hx hb dd_Model_number_0 (by decide) ?_
  refine lv_lstore_n (lv' := [(1, .long (0 : Int64)), (0, .ref (ad 0))]) hx hb dd_Model_number_1 rfl hl (by decide) rfl (fun ls hl => ?_)
  refine lv_sipush (v := 128) hx hb dd_Model_number_2 (by decide) ?_
  refine lv_istore_n (lv' := [(3, .int (128 : Int32)), (1, .long (0 : Int64)), (0, .ref (ad 0))]) hx hb dd_Model_number_5 rfl hl (by decide) rfl (fun ls hl => ?_)
  refine lv_iconst (v := 0) hx hb dd_Model_number_6 (by decide) ?_
  refine lv_istore (lv' := [(4, .int (0 : Int32)), (3, .int (128 : Int32)), (1, .long (0 : Int64)), (0, .ref (ad 0))]) hx hb dd_Model_number_7 hl (by decide) rfl (fun ls hl => ?_)
  exact wj_Model_number_9 htr C hne h hP hS (lv_sub hl [3, 2, 1, 0] rfl)
abbrev rm_Model_ahead : Room := { frames := 1, cells := 1, slots := 6, locals := 0 }
noncomputable def fm_Model_ahead (u : xk_St) : Option (Int32 × xk_St) :=
  if (u.1 5) ≤ (u.1 4) then (some ((-1 : Int32), u)) else ((if (u.1 4) < 0 ∨ 8192 ≤ (u.1 4).toNatClampNeg then none else some (((u.2.2.1 1 (u.1 4).toNatClampNeg) &&& (255 : Int32)), u)))
set_option maxHeartbeats 4000000 in
set_option maxRecDepth 100000 in
theorem ct_Model_ahead {l : Launch} {D : va_G} {ad : Nat → Nat} {ca : Nat → ClassId} {ads : List Nat} (htr : l.stackTraces = false) (hok : xk_ok (kw_m ad ca) ads) {u u' : xk_St} {r : Int32} (h : fm_Model_ahead u = some (r, u')) :
    ∀ sz, xk_Met l ⟨"ModuleHouseModel", "ahead", "()I"⟩ (Cond.code ⟨"ModuleHouseModel", "ahead", "()I"⟩ prog_14_method_10_code 1 (some .int) :: xk_gd) rm_Model_ahead (xk_Pc D kx_cl (kx_ty ca) (kw_m ad ca) ads xk_F sz [.ref (ad 0)] u) (xk_Qc D kx_cl (kw_m ad ca) ads (xo_i (.inl r)) u') (xk_A ads sz) := by
  unfold fm_Model_ahead at h
  refine xk_con (by decide) htr hok (Nat.le_of_ble_eq_true rfl) (fun p e s m below meth c ls C hne hl hP => ?_)
  have hx := C.1.1
  have hb := C.1.2.1
  have hS : va_S (xk_A ads s.heap.size) s.heap s.heap [] := va_S.rf
  have hl : lv_has ls 1 [(0, .ref (ad 0))] := hl
  refine lv_aload_n hx hb dd_Model_ahead_0 rfl (lv_at hl 0 rfl) ?_
  refine gf_m_Model_0_at C hP dd_Model_ahead_1 ?_
  refine lv_aload_n hx hb dd_Model_ahead_4 rfl (lv_at hl 0 rfl) ?_
  refine gf_m_Model_0_limit C hP dd_Model_ahead_5 ?_
  refine lv_icmp_ge (tgt := 27) hx hb dd_Model_ahead_8 (by decide) (fun hc => ?_) (fun hc => ?_)
  · have h := xp_t hc h
    refine lv_iconst (v := (-1)) hx hb dd_Model_ahead_27 (by decide) ?_
    obtain ⟨rfl, rfl⟩ := xp_r h
    exact xr_iret C hP hS dd_Model_ahead_28
  · have h := xp_f hc h
    refine lv_aload_n hx hb dd_Model_ahead_11 rfl (lv_at hl 0 rfl) ?_
    refine gf_m_Model_0_code C hP dd_Model_ahead_12 ?_
    refine lv_aload_n hx hb dd_Model_ahead_15 rfl (lv_at hl 0 rfl) ?_
    refine gf_m_Model_0_at C hP dd_Model_ahead_16 ?_
    obtain ⟨hi, h⟩ := xp_g h
    refine al_m_3 C hP hi dd_Model_ahead_19 ?_
    refine lv_sipush (v := 255) hx hb dd_Model_ahead_20 (by decide) ?_
    refine lv_iand hx hb dd_Model_ahead_23 ?_
    refine lv_goto (tgt := 28) hx hb dd_Model_ahead_24 (by decide) ?_
    obtain ⟨rfl, rfl⟩ := xp_r h
    exact xr_iret C hP hS dd_Model_ahead_28
abbrev rm_Model_isTypeByte : Room := { frames := 1, cells := 1, slots := 6, locals := 0 }
noncomputable def jb_Model_isTypeByte_36 (u : xk_St) : Option (Int32 × xk_St) :=
  some ((1 : Int32), u)
noncomputable def fm_Model_isTypeByte (x0 : Int32) (u : xk_St) : Option (Int32 × xk_St) :=
  if x0 = (127 : Int32) then (jb_Model_isTypeByte_36 u) else (if x0 = (126 : Int32) then (jb_Model_isTypeByte_36 u) else (if x0 = (109 : Int32) then (jb_Model_isTypeByte_36 u) else (if x0 = (108 : Int32) then (jb_Model_isTypeByte_36 u) else (if x0 = (99 : Int32) then (jb_Model_isTypeByte_36 u) else (if x0 = (100 : Int32) then (jb_Model_isTypeByte_36 u) else (some ((0 : Int32), u)))))))
set_option maxHeartbeats 4000000 in
set_option maxRecDepth 100000 in
theorem wj_Model_isTypeByte_36 {p : Program} {l : Launch} {e : Env} {s : State} {m : MethodId} {args : Array Value} {below : List Frame} {meth : Method} {c : Code} {D : va_G} {ad : Nat → Nat} {ca : Nat → ClassId} {ads : List Nat} (htr : l.stackTraces = false) (C : xk_C D kx_cl (kx_ty ca) (kw_m ad ca) ads "ModuleHouseModel" prog_14_method_16_code 1 (some .boolean) p e s m args meth c) (hne : c.exceptionTable.isEmpty = true) {u' : xk_St} {r : Int32} {u : xk_St} {H : Heap} {locs : List Loc} {ls : Array Slot} (h : jb_Model_isTypeByte_36   u = some (r, u')) (hP : va_P D kx_cl (kw_m ad ca u) H) (hS : va_S (xk_A ads s.heap.size) s.heap H locs) (hl : lv_has ls 1 []) : W p l e rm_Model_isTypeByte s m args below meth c H locs 0 0 (xk_MQ below (xk_Qc D kx_cl (kw_m ad ca) ads (xo_i (.inl r)) u') args s (xk_A ads s.heap.size)) (F0 m 36 ls []) := by
  have hx := C.1.1
  have hb := C.1.2.1
  have hok := C.2.2.1
  unfold jb_Model_isTypeByte_36 at h
  refine lv_iconst (v := 1) hx hb dd_Model_isTypeByte_36 (by decide) ?_
  refine lv_goto (tgt := 41) hx hb dd_Model_isTypeByte_37 (by decide) ?_
  obtain ⟨rfl, rfl⟩ := xp_r h
  exact xr_zret C hP hS (by decide) dd_Model_isTypeByte_41
set_option maxHeartbeats 4000000 in
set_option maxRecDepth 100000 in
theorem ct_Model_isTypeByte {l : Launch} {D : va_G} {ad : Nat → Nat} {ca : Nat → ClassId} {ads : List Nat} (htr : l.stackTraces = false) (hok : xk_ok (kw_m ad ca) ads) {x0 : Int32} {u u' : xk_St} {r : Int32} (h : fm_Model_isTypeByte x0 u = some (r, u')) :
    ∀ sz, xk_Met l ⟨"ModuleHouseModel", "isTypeByte", "(I)Z"⟩ (Cond.code ⟨"ModuleHouseModel", "isTypeByte", "(I)Z"⟩ prog_14_method_16_code 1 (some .boolean) :: xk_gd) rm_Model_isTypeByte (xk_Pc D kx_cl (kx_ty ca) (kw_m ad ca) ads xk_F sz [.int x0] u) (xk_Qc D kx_cl (kw_m ad ca) ads (xo_i (.inl r)) u') (xk_A ads sz) := by
  unfold fm_Model_isTypeByte at h
  refine xk_con (by decide) htr hok (Nat.le_of_ble_eq_true rfl) (fun p e s m below meth c ls C hne hl hP => ?_)
  have hx := C.1.1
  have hb := C.1.2.1
  have hS : va_S (xk_A ads s.heap.size) s.heap s.heap [] := va_S.rf
  have hl : lv_has ls 1 [(0, .int x0)] := hl
  refine lv_iload_n hx hb dd_Model_isTypeByte_0 rfl (lv_at hl 0 rfl) ?_
  refine lv_bipush (v := 127) hx hb dd_Model_isTypeByte_1 (by decide) ?_
  refine lv_icmp_eq (tgt := 36) hx hb dd_Model_isTypeByte_3 (by decide) (fun hc => ?_) (fun hc => ?_)
  · have h := xp_t hc h
    exact wj_Model_isTypeByte_36 htr C hne h hP hS (lv_sub hl [] rfl)
  · have h := xp_f hc h
    refine lv_iload_n hx hb dd_Model_isTypeByte_6 rfl (lv_at hl 0 rfl) ?_
    refine lv_bipush (v := 126) hx hb dd_Model_isTypeByte_7 (by decide) ?_
    refine lv_icmp_eq (tgt := 36) hx hb dd_Model_isTypeByte_9 (by decide) (fun hc => ?_) (fun hc => ?_)
    · have h := xp_t hc h
      exact wj_Model_isTypeByte_36 htr C hne h hP hS (lv_sub hl [] rfl)
    · have h := xp_f hc h
      refine lv_iload_n hx hb dd_Model_isTypeByte_12 rfl (lv_at hl 0 rfl) ?_
      refine lv_bipush (v := 109) hx hb dd_Model_isTypeByte_13 (by decide) ?_
      refine lv_icmp_eq (tgt := 36) hx hb dd_Model_isTypeByte_15 (by decide) (fun hc => ?_) (fun hc => ?_)
      · have h := xp_t hc h
        exact wj_Model_isTypeByte_36 htr C hne h hP hS (lv_sub hl [] rfl)
      · have h := xp_f hc h
        refine lv_iload_n hx hb dd_Model_isTypeByte_18 rfl (lv_at hl 0 rfl) ?_
        refine lv_bipush (v := 108) hx hb dd_Model_isTypeByte_19 (by decide) ?_
        refine lv_icmp_eq (tgt := 36) hx hb dd_Model_isTypeByte_21 (by decide) (fun hc => ?_) (fun hc => ?_)
        · have h := xp_t hc h
          exact wj_Model_isTypeByte_36 htr C hne h hP hS (lv_sub hl [] rfl)
        · have h := xp_f hc h
          refine lv_iload_n hx hb dd_Model_isTypeByte_24 rfl (lv_at hl 0 rfl) ?_
          refine lv_bipush (v := 99) hx hb dd_Model_isTypeByte_25 (by decide) ?_
          refine lv_icmp_eq (tgt := 36) hx hb dd_Model_isTypeByte_27 (by decide) (fun hc => ?_) (fun hc => ?_)
          · have h := xp_t hc h
            exact wj_Model_isTypeByte_36 htr C hne h hP hS (lv_sub hl [] rfl)
          · have h := xp_f hc h
            refine lv_iload_n hx hb dd_Model_isTypeByte_30 rfl (lv_at hl 0 rfl) ?_
            refine lv_bipush (v := 100) hx hb dd_Model_isTypeByte_31 (by decide) ?_
            refine lv_icmp_ne (tgt := 40) hx hb dd_Model_isTypeByte_33 (by decide) (fun hc => ?_) (fun hc => ?_)
            · have h := xp_f hc h
              refine lv_iconst (v := 0) hx hb dd_Model_isTypeByte_40 (by decide) ?_
              obtain ⟨rfl, rfl⟩ := xp_r h
              exact xr_zret C hP hS (by decide) dd_Model_isTypeByte_41
            · have h := xp_t hc h
              exact wj_Model_isTypeByte_36 htr C hne h hP hS (lv_sub hl [] rfl)
abbrev rm_Model_reference : Room := { frames := 1, cells := 1, slots := 6, locals := 0 }
noncomputable def fm_Model_reference (x0 : Int32) (x1 : Int32) (u : xk_St) : Option (Int32 × xk_St) :=
  if x1 = (0 : Int32) then (some ((((16 : Int32) + ((2 : Int32) * x0)) + (0 : Int32)), u)) else (some ((((16 : Int32) + ((2 : Int32) * x0)) + (1 : Int32)), u))
set_option maxHeartbeats 4000000 in
set_option maxRecDepth 100000 in
theorem ct_Model_reference {l : Launch} {D : va_G} {ad : Nat → Nat} {ca : Nat → ClassId} {ads : List Nat} (htr : l.stackTraces = false) (hok : xk_ok (kw_m ad ca) ads) {x0 : Int32} {x1 : Int32} {u u' : xk_St} {r : Int32} (h : fm_Model_reference x0 x1 u = some (r, u')) :
    ∀ sz, xk_Met l ⟨"ModuleHouseModel", "reference", "(IZ)I"⟩ (Cond.code ⟨"ModuleHouseModel", "reference", "(IZ)I"⟩ prog_14_method_5_code 2 (some .int) :: xk_gd) rm_Model_reference (xk_Pc D kx_cl (kx_ty ca) (kw_m ad ca) ads xk_F sz [.int x0, .int x1] u) (xk_Qc D kx_cl (kw_m ad ca) ads (xo_i (.inl r)) u') (xk_A ads sz) := by
  unfold fm_Model_reference at h
  refine xk_con (by decide) htr hok (Nat.le_of_ble_eq_true rfl) (fun p e s m below meth c ls C hne hl hP => ?_)
  have hx := C.1.1
  have hb := C.1.2.1
  have hS : va_S (xk_A ads s.heap.size) s.heap s.heap [] := va_S.rf
  have hl : lv_has ls 2 [(0, .int x0), (1, .int x1)] := hl
  refine lv_bipush (v := 16) hx hb dd_Model_reference_0 (by decide) ?_
  refine lv_iconst (v := 2) hx hb dd_Model_reference_2 (by decide) ?_
  refine lv_iload_n hx hb dd_Model_reference_3 rfl (lv_at hl 0 rfl) ?_
  refine lv_imul hx hb dd_Model_reference_4 ?_
  refine lv_iadd hx hb dd_Model_reference_5 ?_
  refine lv_iload_n hx hb dd_Model_reference_6 rfl (lv_at hl 1 rfl) ?_
  refine lv_if_eq (tgt := 14) hx hb dd_Model_reference_7 (by decide) (fun hc => ?_) (fun hc => ?_)
  · have h := xp_t hc h
    refine lv_iconst (v := 0) hx hb dd_Model_reference_14 (by decide) ?_
    refine lv_iadd hx hb dd_Model_reference_15 ?_
    obtain ⟨rfl, rfl⟩ := xp_r h
    exact xr_iret C hP hS dd_Model_reference_16
  · have h := xp_f hc h
    refine lv_iconst (v := 1) hx hb dd_Model_reference_10 (by decide) ?_
    refine lv_goto (tgt := 15) hx hb dd_Model_reference_11 (by decide) ?_
    refine lv_iadd hx hb dd_Model_reference_15 ?_
    obtain ⟨rfl, rfl⟩ := xp_r h
    exact xr_iret C hP hS dd_Model_reference_16
abbrev rm_Model_sx : Room := { frames := 1, cells := 1, slots := 6, locals := 0 }
noncomputable def fm_Model_sx (x0 : Int64) (x1 : Int32) (u : xk_St) : Option (Int64 × xk_St) :=
  some (((x0 <<< (((64 : Int32) - x1).toInt64 &&& 63)) >>> (((64 : Int32) - x1).toInt64 &&& 63)), u)
set_option maxHeartbeats 4000000 in
set_option maxRecDepth 100000 in
theorem ct_Model_sx {l : Launch} {D : va_G} {ad : Nat → Nat} {ca : Nat → ClassId} {ads : List Nat} (htr : l.stackTraces = false) (hok : xk_ok (kw_m ad ca) ads) {x0 : Int64} {x1 : Int32} {u u' : xk_St} {r : Int64} (h : fm_Model_sx x0 x1 u = some (r, u')) :
    ∀ sz, xk_Met l ⟨"ModuleHouseModel", "sx", "(JI)J"⟩ (Cond.code ⟨"ModuleHouseModel", "sx", "(JI)J"⟩ prog_14_method_4_code 3 (some .long) :: xk_gd) rm_Model_sx (xk_Pc D kx_cl (kx_ty ca) (kw_m ad ca) ads xk_F sz [.long x0, .int x1] u) (xk_Qc D kx_cl (kw_m ad ca) ads (xo_l (.inl r)) u') (xk_A ads sz) := by
  unfold fm_Model_sx at h
  refine xk_con (by decide) htr hok (Nat.le_of_ble_eq_true rfl) (fun p e s m below meth c ls C hne hl hP => ?_)
  have hx := C.1.1
  have hb := C.1.2.1
  have hS : va_S (xk_A ads s.heap.size) s.heap s.heap [] := va_S.rf
  have hl : lv_has ls 3 [(0, .long x0), (2, .int x1)] := hl
  refine lv_lload_n hx hb dd_Model_sx_0 rfl (lv_at hl 0 rfl) ?_
  refine lv_bipush (v := 64) hx hb dd_Model_sx_1 (by decide) ?_
  refine lv_iload_n hx hb dd_Model_sx_3 rfl (lv_at hl 1 rfl) ?_
  refine lv_isub hx hb dd_Model_sx_4 ?_
  refine lv_lshl hx hb dd_Model_sx_5 rfl ?_
  refine lv_bipush (v := 64) hx hb dd_Model_sx_6 (by decide) ?_
  refine lv_iload_n hx hb dd_Model_sx_8 rfl (lv_at hl 1 rfl) ?_
  refine lv_isub hx hb dd_Model_sx_9 ?_
  refine lv_lshr hx hb dd_Model_sx_10 rfl ?_
  obtain ⟨rfl, rfl⟩ := xp_r h
  exact xr_lret C hP hS dd_Model_sx_11
abbrev rm_Model_signed : Room := { frames := 3, cells := 1, slots := 6, locals := 41 }
noncomputable def jb_Model_signed_135 (fu : Nat) (b2 : Int64) (u : xk_St) : Option (Int64 × xk_St) :=
  if (u.1 6) = (0 : Int32) then (some (b2, u)) else (some ((0 : Int64), u))
noncomputable def jb_Model_signed_114 (fu : Nat) (b1 : Int32) (b2 : Int64) (u : xk_St) : Option (Int64 × xk_St) :=
  if (64 : Int32) ≤ b1 then (jb_Model_signed_135 fu b2 u) else ((xs_seq (fm_Model_sx b2 b1 u) fun a1 u2 => if a1 = b2 then (jb_Model_signed_135 fu b2 u2) else ((xs_seq (fm_Model_fail (-1 : Int32) u2) fun _ u3 => jb_Model_signed_135 fu b2 u3))))
noncomputable def jb_Model_signed_90 (fu : Nat) (b1 : Int32) (b2 : Int64) (b4 : Int32) (b5 : Int32) (u : xk_St) : Option (Int64 × xk_St) :=
  if (64 : Int32) ≤ b5 then (jb_Model_signed_114 fu b1 b2 u) else (if (b4 &&& (64 : Int32)) = (0 : Int32) then (jb_Model_signed_114 fu b1 b2 u) else ((xs_let (b2 ||| ((-1 : Int64) <<< (b5.toInt64 &&& 63))) fun a4 => jb_Model_signed_114 fu b1 a4 u)))
noncomputable def jb_Model_signed_78 (fu : Nat) (b1 : Int32) (b2 : Int64) (b4 : Int32) (b5 : Int32) (u : xk_St) : Option (Int64 × xk_St) :=
  if b4 ≤ (127 : Int32) then (jb_Model_signed_90 fu b1 b2 b4 b5 u) else ((xs_seq (fm_Model_fail (-1 : Int32) u) fun _ u5 => jb_Model_signed_90 fu b1 b2 b4 b5 u5))
noncomputable def jb_Model_signed_60 (fu : Nat) (k10 : Int32 → Int64 → Int32 → Int32 → xk_St → Option (Int64 × xk_St)) (b1 : Int32) (b2 : Int64) (b4 : Int32) (b5 : Int32) (u : xk_St) : Option (Int64 × xk_St) :=
  (xs_let (b2 ||| (((b4 &&& (127 : Int32)).toInt64) <<< (b5.toInt64 &&& 63))) fun a8 => xs_let (b5 + (7 : Int32)) fun a9 => k10 b1 a8 b4 a9 u)
noncomputable def jb_Model_signed_10 (fu : Nat) : Nat → Int32 → Int64 → Int32 → Int32 → xk_St → Option (Int64 × xk_St)
  | 0 => fun _ _ _ _ _ => none
  | n + 1 => fun b1 b2 b4 b5 u =>
    xs_let (jb_Model_signed_10 fu  n) fun k10 =>
    if b4 ≤ (127 : Int32) then (jb_Model_signed_78 fu b1 b2 b4 b5 u) else (if b1 ≤ b5 then (jb_Model_signed_78 fu b1 b2 b4 b5 u) else (if (u.1 6) = (0 : Int32) then ((xs_seq (fm_Model_one u) fun a6 u7 => if b5 = (63 : Int32) then (if a6 = (0 : Int32) then (jb_Model_signed_60 fu k10 b1 b2 a6 b5 u7) else (if a6 = (127 : Int32) then (jb_Model_signed_60 fu k10 b1 b2 a6 b5 u7) else ((xs_seq (fm_Model_fail (-1 : Int32) u7) fun _ u10 => jb_Model_signed_60 fu k10 b1 b2 a6 b5 u10)))) else (jb_Model_signed_60 fu k10 b1 b2 a6 b5 u7))) else (jb_Model_signed_78 fu b1 b2 b4 b5 u)))
noncomputable def fm_Model_signed (fu : Nat) (x0 : Int32) (u : xk_St) : Option (Int64 × xk_St) :=
  jb_Model_signed_10 fu fu x0 (0 : Int64) (128 : Int32) (0 : Int32) u
set_option maxHeartbeats 4000000 in
set_option maxRecDepth 100000 in
theorem wj_Model_signed_135 {p : Program} {l : Launch} {e : Env} {s : State} {m : MethodId} {args : Array Value} {below : List Frame} {meth : Method} {c : Code} {D : va_G} {ad : Nat → Nat} {ca : Nat → ClassId} {ads : List Nat} {fu : Nat} (htr : l.stackTraces = false) (C : xk_C D kx_cl (kx_ty ca) (kw_m ad ca) ads "ModuleHouseModel" prog_14_method_12_code 6 (some .long) p e s m args meth c) (hne : c.exceptionTable.isEmpty = true) {u' : xk_St} {r : Int64} {b2 : Int64} {u : xk_St} {H : Heap} {locs : List Loc} {ls : Array Slot} (h : jb_Model_signed_135 fu  b2 u = some (r, u')) (hP : va_P D kx_cl (kw_m ad ca u) H) (hS : va_S (xk_A ads s.heap.size) s.heap H locs) (hl : lv_has ls 6 [(0, .ref (ad 0)), (2, .long b2)]) : W p l e rm_Model_signed s m args below meth c H locs 0 0 (xk_MQ below (xk_Qc D kx_cl (kw_m ad ca) ads (xo_l (.inl r)) u') args s (xk_A ads s.heap.size)) (F0 m 135 ls []) := by
  have hx := C.1.1
  have hb := C.1.2.1
  have hok := C.2.2.1
  unfold jb_Model_signed_135 at h
  refine lv_aload_n hx hb dd_Model_signed_135 rfl (lv_at hl 0 rfl) ?_
  refine gf_m_Model_0_bad C hP dd_Model_signed_136 ?_
  refine lv_if_ne (tgt := 146) hx hb dd_Model_signed_139 (by decide) (fun hc => ?_) (fun hc => ?_)
  · have h := xp_f hc h
    refine lv_lconst (v := 0) hx hb dd_Model_signed_146 (by decide) ?_
    obtain ⟨rfl, rfl⟩ := xp_r h
    exact xr_lret C hP hS dd_Model_signed_147
  · have h := xp_t hc h
    refine lv_lload_n hx hb dd_Model_signed_142 rfl (lv_at hl 1 rfl) ?_
    refine lv_goto (tgt := 147) hx hb dd_Model_signed_143 (by decide) ?_
    obtain ⟨rfl, rfl⟩ := xp_r h
    exact xr_lret C hP hS dd_Model_signed_147
set_option maxHeartbeats 4000000 in
set_option maxRecDepth 100000 in
theorem wj_Model_signed_114 {p : Program} {l : Launch} {e : Env} {s : State} {m : MethodId} {args : Array Value} {below : List Frame} {meth : Method} {c : Code} {D : va_G} {ad : Nat → Nat} {ca : Nat → ClassId} {ads : List Nat} {fu : Nat} (htr : l.stackTraces = false) (C : xk_C D kx_cl (kx_ty ca) (kw_m ad ca) ads "ModuleHouseModel" prog_14_method_12_code 6 (some .long) p e s m args meth c) (hne : c.exceptionTable.isEmpty = true) {u' : xk_St} {r : Int64} {b1 : Int32} {b2 : Int64} {u : xk_St} {H : Heap} {locs : List Loc} {ls : Array Slot} (h : jb_Model_signed_114 fu  b1 b2 u = some (r, u')) (hP : va_P D kx_cl (kw_m ad ca u) H) (hS : va_S (xk_A ads s.heap.size) s.heap H locs) (hl : lv_has ls 6 [(0, .ref (ad 0)), (1, .int b1), (2, .long b2)]) : W p l e rm_Model_signed s m args below meth c H locs 0 0 (xk_MQ below (xk_Qc D kx_cl (kw_m ad ca) ads (xo_l (.inl r)) u') args s (xk_A ads s.heap.size)) (F0 m 114 ls []) := by
  have hx := C.1.1
  have hb := C.1.2.1
  have hok := C.2.2.1
  unfold jb_Model_signed_114 at h
  refine lv_iload_n hx hb dd_Model_signed_114 rfl (lv_at hl 1 rfl) ?_
  refine lv_bipush (v := 64) hx hb dd_Model_signed_115 (by decide) ?_
  refine lv_icmp_ge (tgt := 135) hx hb dd_Model_signed_117 (by decide) (fun hc => ?_) (fun hc => ?_)
  · have h := xp_t hc h
    exact wj_Model_signed_135 htr C hne h hP hS (lv_sub hl [0, 2] rfl)
  · have h := xp_f hc h
    refine lv_lload_n hx hb dd_Model_signed_120 rfl (lv_at hl 2 rfl) ?_
    refine lv_iload_n hx hb dd_Model_signed_121 rfl (lv_at hl 1 rfl) ?_
    obtain ⟨a1, u2, hq, h⟩ := xp_seq h
    refine xk_goesL (xr_S (As := [.long b2, .int b1]) (rest := []) C hP hS (ct_Model_sx htr hok hq) kq_Model_186 ⟨rfl, rfl, Nat.le_of_ble_eq_true rfl, Nat.le_of_ble_eq_true rfl⟩ ⟨Nat.le_of_ble_eq_true rfl, Nat.le_of_ble_eq_true rfl⟩ hl.1 rfl rfl (Nat.le_of_ble_eq_true rfl) dd_Model_signed_122) hS (fun H locs hP hS => ?_)
    clear hq
    refine lv_lload_n hx hb dd_Model_signed_125 rfl (lv_at hl 2 rfl) ?_
    refine xr_lc_eq (tgt := 135) hx hb dd_Model_signed_126 dd_Model_signed_127 (by decide) (fun hc => ?_) (fun hc => ?_)
    · have h := xp_t hc h
      exact wj_Model_signed_135 htr C hne h hP hS (lv_sub hl [0, 2] rfl)
    · have h := xp_f hc h
      refine lv_aload_n hx hb dd_Model_signed_130 rfl (lv_at hl 0 rfl) ?_
      refine lv_iconst (v := (-1)) hx hb dd_Model_signed_131 (by decide) ?_
      obtain ⟨rx, u3, hq, h⟩ := xp_seq h
      refine xk_goesV (xr_V (As := [.int (-1 : Int32)]) (rest := []) C hP hS (ct_Model_fail htr hok hq) kq_Model_174 0 11 rfl rfl ⟨rfl, rfl, Nat.le_of_ble_eq_true rfl, Nat.le_of_ble_eq_true rfl⟩ ⟨Nat.le_of_ble_eq_true rfl, Nat.le_of_ble_eq_true rfl⟩ hl.1 rfl rfl (Nat.le_of_ble_eq_true rfl) dd_Model_signed_132) hS (fun H locs hP hS => ?_)
      clear hq
      exact wj_Model_signed_135 htr C hne h hP hS (lv_sub hl [0, 2] rfl)
set_option maxHeartbeats 4000000 in
set_option maxRecDepth 100000 in
theorem wj_Model_signed_90 {p : Program} {l : Launch} {e : Env} {s : State} {m : MethodId} {args : Array Value} {below : List Frame} {meth : Method} {c : Code} {D : va_G} {ad : Nat → Nat} {ca : Nat → ClassId} {ads : List Nat} {fu : Nat} (htr : l.stackTraces = false) (C : xk_C D kx_cl (kx_ty ca) (kw_m ad ca) ads "ModuleHouseModel" prog_14_method_12_code 6 (some .long) p e s m args meth c) (hne : c.exceptionTable.isEmpty = true) {u' : xk_St} {r : Int64} {b1 : Int32} {b2 : Int64} {b4 : Int32} {b5 : Int32} {u : xk_St} {H : Heap} {locs : List Loc} {ls : Array Slot} (h : jb_Model_signed_90 fu  b1 b2 b4 b5 u = some (r, u')) (hP : va_P D kx_cl (kw_m ad ca u) H) (hS : va_S (xk_A ads s.heap.size) s.heap H locs) (hl : lv_has ls 6 [(0, .ref (ad 0)), (1, .int b1), (2, .long b2), (4, .int b4), (5, .int b5)]) : W p l e rm_Model_signed s m args below meth c H locs 0 0 (xk_MQ below (xk_Qc D kx_cl (kw_m ad ca) ads (xo_l (.inl r)) u') args s (xk_A ads s.heap.size)) (F0 m 90 ls []) := by
  have hx := C.1.1
  have hb := C.1.2.1
  have hok := C.2.2.1
  unfold jb_Model_signed_90 at h
  refine lv_iload hx hb dd_Model_signed_90 (lv_at hl 4 rfl) ?_
  refine lv_bipush (v := 64) hx hb dd_Model_signed_92 (by decide) ?_
  refine lv_icmp_ge (tgt := 114) hx hb dd_Model_signed_94 (by decide) (fun hc => ?_) (fun hc => ?_)
  · have h := xp_t hc h
    exact wj_Model_signed_114 htr C hne h hP hS (lv_sub hl [0, 1, 2] rfl)
  · have h := xp_f hc h
    refine lv_iload hx hb dd_Model_signed_97 (lv_at hl 3 rfl) ?_
    refine lv_bipush (v := 64) hx hb dd_Model_signed_99 (by decide) ?_
    refine lv_iand hx hb dd_Model_signed_101 ?_
    refine lv_if_eq (tgt := 114) hx hb dd_Model_signed_102 (by decide) (fun hc => ?_) (fun hc => ?_)
    · have h := xp_t hc h
      exact wj_Model_signed_114 htr C hne h hP hS (lv_sub hl [0, 1, 2] rfl)
    · have h := xp_f hc h
      refine lv_lload_n hx hb dd_Model_signed_105 rfl (lv_at hl 2 rfl) ?_
      refine lv_ldc2 (v := (-1)) hx hb C.1.2.2.2.1 (C.1.2.2.2.2 _ (xk_c9 (w := Jvm.Cond.constantLong "ModuleHouseModel" 184 (-1)) 138 rfl rfl)) dd_Model_signed_106 ?_
      refine lv_iload hx hb dd_Model_signed_109 (lv_at hl 4 rfl) ?_
      refine lv_lshl hx hb dd_Model_signed_111 rfl ?_
      refine lv_lor hx hb dd_Model_signed_112 ?_
      obtain ⟨a4, ea4, h⟩ := xp_let h
      refine xr_naml ea4 ?_
      refine lv_lstore_n (lv' := [(2, .long a4), (0, .ref (ad 0)), (1, .int b1), (4, .int b4), (5, .int b5)]) hx hb dd_Model_signed_113 rfl hl (by decide) rfl (fun ls hl => ?_)
      exact wj_Model_signed_114 htr C hne h hP hS (lv_sub hl [1, 2, 0] rfl)
set_option maxHeartbeats 4000000 in
set_option maxRecDepth 100000 in
theorem wj_Model_signed_78 {p : Program} {l : Launch} {e : Env} {s : State} {m : MethodId} {args : Array Value} {below : List Frame} {meth : Method} {c : Code} {D : va_G} {ad : Nat → Nat} {ca : Nat → ClassId} {ads : List Nat} {fu : Nat} (htr : l.stackTraces = false) (C : xk_C D kx_cl (kx_ty ca) (kw_m ad ca) ads "ModuleHouseModel" prog_14_method_12_code 6 (some .long) p e s m args meth c) (hne : c.exceptionTable.isEmpty = true) {u' : xk_St} {r : Int64} {b1 : Int32} {b2 : Int64} {b4 : Int32} {b5 : Int32} {u : xk_St} {H : Heap} {locs : List Loc} {ls : Array Slot} (h : jb_Model_signed_78 fu  b1 b2 b4 b5 u = some (r, u')) (hP : va_P D kx_cl (kw_m ad ca u) H) (hS : va_S (xk_A ads s.heap.size) s.heap H locs) (hl : lv_has ls 6 [(0, .ref (ad 0)), (1, .int b1), (2, .long b2), (4, .int b4), (5, .int b5)]) : W p l e rm_Model_signed s m args below meth c H locs 0 0 (xk_MQ below (xk_Qc D kx_cl (kw_m ad ca) ads (xo_l (.inl r)) u') args s (xk_A ads s.heap.size)) (F0 m 78 ls []) := by
  have hx := C.1.1
  have hb := C.1.2.1
  have hok := C.2.2.1
  unfold jb_Model_signed_78 at h
  refine lv_iload hx hb dd_Model_signed_78 (lv_at hl 3 rfl) ?_
  refine lv_bipush (v := 127) hx hb dd_Model_signed_80 (by decide) ?_
  refine lv_icmp_le (tgt := 90) hx hb dd_Model_signed_82 (by decide) (fun hc => ?_) (fun hc => ?_)
  · have h := xp_t hc h
    exact wj_Model_signed_90 htr C hne h hP hS (lv_sub hl [0, 1, 2, 3, 4] rfl)
  · have h := xp_f hc h
    refine lv_aload_n hx hb dd_Model_signed_85 rfl (lv_at hl 0 rfl) ?_
    refine lv_iconst (v := (-1)) hx hb dd_Model_signed_86 (by decide) ?_
    obtain ⟨rx, u5, hq, h⟩ := xp_seq h
    refine xk_goesV (xr_V (As := [.int (-1 : Int32)]) (rest := []) C hP hS (ct_Model_fail htr hok hq) kq_Model_174 0 11 rfl rfl ⟨rfl, rfl, Nat.le_of_ble_eq_true rfl, Nat.le_of_ble_eq_true rfl⟩ ⟨Nat.le_of_ble_eq_true rfl, Nat.le_of_ble_eq_true rfl⟩ hl.1 rfl rfl (Nat.le_of_ble_eq_true rfl) dd_Model_signed_87) hS (fun H locs hP hS => ?_)
    clear hq
    exact wj_Model_signed_90 htr C hne h hP hS (lv_sub hl [0, 1, 2, 3, 4] rfl)
set_option maxHeartbeats 4000000 in
set_option maxRecDepth 100000 in
theorem wj_Model_signed_60 {p : Program} {l : Launch} {e : Env} {s : State} {m : MethodId} {args : Array Value} {below : List Frame} {meth : Method} {c : Code} {D : va_G} {ad : Nat → Nat} {ca : Nat → ClassId} {ads : List Nat} {fu : Nat} (htr : l.stackTraces = false) (C : xk_C D kx_cl (kx_ty ca) (kw_m ad ca) ads "ModuleHouseModel" prog_14_method_12_code 6 (some .long) p e s m args meth c) (hne : c.exceptionTable.isEmpty = true) {u' : xk_St} {r : Int64} {k10 : Int32 → Int64 → Int32 → Int32 → xk_St → Option (Int64 × xk_St)} (hk10 : ∀ (c0 : Int32) (c1 : Int64) (c2 : Int32) (c3 : Int32) (u : xk_St) (H : Heap) (locs : List Loc) (ls : Array Slot), k10 c0 c1 c2 c3 u = some (r, u') → va_P D kx_cl (kw_m ad ca u) H → va_S (xk_A ads s.heap.size) s.heap H locs → lv_has ls 6 [(0, .ref (ad 0)), (1, .int c0), (2, .long c1), (4, .int c2), (5, .int c3)] → W p l e rm_Model_signed s m args below meth c H locs 0 0 (xk_MQ below (xk_Qc D kx_cl (kw_m ad ca) ads (xo_l (.inl r)) u') args s (xk_A ads s.heap.size)) (F0 m 10 ls [])) {b1 : Int32} {b2 : Int64} {b4 : Int32} {b5 : Int32} {u : xk_St} {H : Heap} {locs : List Loc} {ls : Array Slot} (h : jb_Model_signed_60 fu k10 b1 b2 b4 b5 u = some (r, u')) (hP : va_P D kx_cl (kw_m ad ca u) H) (hS : va_S (xk_A ads s.heap.size) s.heap H locs) (hl : lv_has ls 6 [(0, .ref (ad 0)), (1, .int b1), (2, .long b2), (4, .int b4), (5, .int b5)]) : W p l e rm_Model_signed s m args below meth c H locs 0 0 (xk_MQ below (xk_Qc D kx_cl (kw_m ad ca) ads (xo_l (.inl r)) u') args s (xk_A ads s.heap.size)) (F0 m 60 ls []) := by
  have hx := C.1.1
  have hb := C.1.2.1
  have hok := C.2.2.1
  unfold jb_Model_signed_60 at h
  refine lv_lload_n hx hb dd_Model_signed_60 rfl (lv_at hl 2 rfl) ?_
  refine lv_iload hx hb dd_Model_signed_61 (lv_at hl 3 rfl) ?_
  refine lv_bipush (v := 127) hx hb dd_Model_signed_63 (by decide) ?_
  refine lv_iand hx hb dd_Model_signed_65 ?_
  refine lv_i2l hx hb dd_Model_signed_66 rfl ?_
  refine lv_iload hx hb dd_Model_signed_67 (lv_at hl 4 rfl) ?_
  refine lv_lshl hx hb dd_Model_signed_69 rfl ?_
  refine lv_lor hx hb dd_Model_signed_70 ?_
  obtain ⟨a8, ea8, h⟩ := xp_let h
  refine xr_naml ea8 ?_
  refine lv_lstore_n (lv' := [(2, .long a8), (0, .ref (ad 0)), (1, .int b1), (4, .int b4), (5, .int b5)]) hx hb dd_Model_signed_71 rfl hl (by decide) rfl (fun ls hl => ?_)
  obtain ⟨a9, ea9, h⟩ := xp_let h
  refine lv_iinc (v := a9) (lv' := [(5, .int a9), (2, .long a8), (0, .ref (ad 0)), (1, .int b1), (4, .int b4)]) hx hb dd_Model_signed_72 hl (k := 4) rfl (by rw [ea9]; first | rfl | decide) (by decide) rfl (fun ls hl => ?_)
  refine lv_goto (tgt := 10) hx hb dd_Model_signed_75 (by decide) ?_
  exact hk10 b1 a8 b4 a9 u _ _ _ h hP hS (lv_sub hl [2, 3, 1, 4, 0] rfl)
set_option maxHeartbeats 4000000 in
set_option maxRecDepth 100000 in
theorem wj_Model_signed_10 {p : Program} {l : Launch} {e : Env} {s : State} {m : MethodId} {args : Array Value} {below : List Frame} {meth : Method} {c : Code} {D : va_G} {ad : Nat → Nat} {ca : Nat → ClassId} {ads : List Nat} {fu : Nat} (htr : l.stackTraces = false) (C : xk_C D kx_cl (kx_ty ca) (kw_m ad ca) ads "ModuleHouseModel" prog_14_method_12_code 6 (some .long) p e s m args meth c) (hne : c.exceptionTable.isEmpty = true) {u' : xk_St} {r : Int64} : ∀ {n : Nat} {b1 : Int32} {b2 : Int64} {b4 : Int32} {b5 : Int32} {u : xk_St} {H : Heap} {locs : List Loc} {ls : Array Slot} (h : jb_Model_signed_10 fu  n b1 b2 b4 b5 u = some (r, u')) (hP : va_P D kx_cl (kw_m ad ca u) H) (hS : va_S (xk_A ads s.heap.size) s.heap H locs) (hl : lv_has ls 6 [(0, .ref (ad 0)), (1, .int b1), (2, .long b2), (4, .int b4), (5, .int b5)]), W p l e rm_Model_signed s m args below meth c H locs 0 0 (xk_MQ below (xk_Qc D kx_cl (kw_m ad ca) ads (xo_l (.inl r)) u') args s (xk_A ads s.heap.size)) (F0 m 10 ls []) := by
  intro n
  have hx := C.1.1
  have hb := C.1.2.1
  have hok := C.2.2.1
  induction n with
  | zero =>
    intro _ _ _ _ u H locs ls h
    have h : none = some (r, u') := h
    cases h
  | succ n ih =>
    intro b1 b2 b4 b5 u H locs ls h hP hS hl
    unfold jb_Model_signed_10 at h
    obtain ⟨k10, ek10, h⟩ := xp_let h
    have hk10 : ∀ (c0 : Int32) (c1 : Int64) (c2 : Int32) (c3 : Int32) (u : xk_St) (H : Heap) (locs : List Loc) (ls : Array Slot), k10 c0 c1 c2 c3 u = some (r, u') → va_P D kx_cl (kw_m ad ca u) H → va_S (xk_A ads s.heap.size) s.heap H locs → lv_has ls 6 [(0, .ref (ad 0)), (1, .int c0), (2, .long c1), (4, .int c2), (5, .int c3)] → W p l e rm_Model_signed s m args below meth c H locs 0 0 (xk_MQ below (xk_Qc D kx_cl (kw_m ad ca) ads (xo_l (.inl r)) u') args s (xk_A ads s.heap.size)) (F0 m 10 ls []) := by
      intro c0 c1 c2 c3 u H locs ls h hP hS hl
      subst ek10
      exact ih h hP hS hl
    clear ih ek10
    refine lv_iload hx hb dd_Model_signed_10 (lv_at hl 3 rfl) ?_
    refine lv_bipush (v := 127) hx hb dd_Model_signed_12 (by decide) ?_
    refine lv_icmp_le (tgt := 78) hx hb dd_Model_signed_14 (by decide) (fun hc => ?_) (fun hc => ?_)
    · have h := xp_t hc h
      exact wj_Model_signed_78 htr C hne h hP hS (lv_sub hl [0, 1, 2, 3, 4] rfl)
    · have h := xp_f hc h
      refine lv_iload hx hb dd_Model_signed_17 (lv_at hl 4 rfl) ?_
      refine lv_iload_n hx hb dd_Model_signed_19 rfl (lv_at hl 1 rfl) ?_
      refine lv_icmp_ge (tgt := 78) hx hb dd_Model_signed_20 (by decide) (fun hc => ?_) (fun hc => ?_)
      · have h := xp_t hc h
        exact wj_Model_signed_78 htr C hne h hP hS (lv_sub hl [0, 1, 2, 3, 4] rfl)
      · have h := xp_f hc h
        refine lv_aload_n hx hb dd_Model_signed_23 rfl (lv_at hl 0 rfl) ?_
        refine gf_m_Model_0_bad C hP dd_Model_signed_24 ?_
        refine lv_if_ne (tgt := 78) hx hb dd_Model_signed_27 (by decide) (fun hc => ?_) (fun hc => ?_)
        · have h := xp_f hc h
          exact wj_Model_signed_78 htr C hne h hP hS (lv_sub hl [0, 1, 2, 3, 4] rfl)
        · have h := xp_t hc h
          refine lv_aload_n hx hb dd_Model_signed_30 rfl (lv_at hl 0 rfl) ?_
          obtain ⟨a6, u7, hq, h⟩ := xp_seq h
          refine xk_goesI (xr_V (As := []) (rest := []) C hP hS (ct_Model_one htr hok hq) kq_Model_178 0 11 rfl rfl ⟨rfl, rfl, Nat.le_of_ble_eq_true rfl, Nat.le_of_ble_eq_true rfl⟩ ⟨Nat.le_of_ble_eq_true rfl, Nat.le_of_ble_eq_true rfl⟩ hl.1 rfl rfl (Nat.le_of_ble_eq_true rfl) dd_Model_signed_31) hS (fun H locs hP hS => ?_)
          clear hq
          refine lv_istore (lv' := [(4, .int a6), (0, .ref (ad 0)), (1, .int b1), (2, .long b2), (5, .int b5)]) hx hb dd_Model_signed_34 hl (by decide) rfl (fun ls hl => ?_)
          refine lv_iload hx hb dd_Model_signed_36 (lv_at hl 4 rfl) ?_
          refine lv_bipush (v := 63) hx hb dd_Model_signed_38 (by decide) ?_
          refine lv_icmp_ne (tgt := 60) hx hb dd_Model_signed_40 (by decide) (fun hc => ?_) (fun hc => ?_)
          · have h := xp_f hc h
            exact wj_Model_signed_60 htr C hne hk10 h hP hS (lv_sub hl [1, 2, 3, 0, 4] rfl)
          · have h := xp_t hc h
            refine lv_iload hx hb dd_Model_signed_43 (lv_at hl 0 rfl) ?_
            refine lv_if_eq (tgt := 60) hx hb dd_Model_signed_45 (by decide) (fun hc => ?_) (fun hc => ?_)
            · have h := xp_t hc h
              exact wj_Model_signed_60 htr C hne hk10 h hP hS (lv_sub hl [1, 2, 3, 0, 4] rfl)
            · have h := xp_f hc h
              refine lv_iload hx hb dd_Model_signed_48 (lv_at hl 0 rfl) ?_
              refine lv_bipush (v := 127) hx hb dd_Model_signed_50 (by decide) ?_
              refine lv_icmp_eq (tgt := 60) hx hb dd_Model_signed_52 (by decide) (fun hc => ?_) (fun hc => ?_)
              · have h := xp_t hc h
                exact wj_Model_signed_60 htr C hne hk10 h hP hS (lv_sub hl [1, 2, 3, 0, 4] rfl)
              · have h := xp_f hc h
                refine lv_aload_n hx hb dd_Model_signed_55 rfl (lv_at hl 1 rfl) ?_
                refine lv_iconst (v := (-1)) hx hb dd_Model_signed_56 (by decide) ?_
                obtain ⟨rx, u10, hq, h⟩ := xp_seq h
                refine xk_goesV (xr_V (As := [.int (-1 : Int32)]) (rest := []) C hP hS (ct_Model_fail htr hok hq) kq_Model_174 0 11 rfl rfl ⟨rfl, rfl, Nat.le_of_ble_eq_true rfl, Nat.le_of_ble_eq_true rfl⟩ ⟨Nat.le_of_ble_eq_true rfl, Nat.le_of_ble_eq_true rfl⟩ hl.1 rfl rfl (Nat.le_of_ble_eq_true rfl) dd_Model_signed_57) hS (fun H locs hP hS => ?_)
                clear hq
                exact wj_Model_signed_60 htr C hne hk10 h hP hS (lv_sub hl [1, 2, 3, 0, 4] rfl)
set_option maxHeartbeats 4000000 in
set_option maxRecDepth 100000 in
theorem ct_Model_signed {l : Launch} {D : va_G} {ad : Nat → Nat} {ca : Nat → ClassId} {ads : List Nat} (htr : l.stackTraces = false) (hok : xk_ok (kw_m ad ca) ads) {fu : Nat} {x0 : Int32} {u u' : xk_St} {r : Int64} (h : fm_Model_signed fu x0 u = some (r, u')) :
    ∀ sz, xk_Met l ⟨"ModuleHouseModel", "signed", "(I)J"⟩ (Cond.code ⟨"ModuleHouseModel", "signed", "(I)J"⟩ prog_14_method_12_code 6 (some .long) :: xk_gd) rm_Model_signed (xk_Pc D kx_cl (kx_ty ca) (kw_m ad ca) ads xk_F sz [.ref (ad 0), .int x0] u) (xk_Qc D kx_cl (kw_m ad ca) ads (xo_l (.inl r)) u') (xk_A ads sz) := by
  unfold fm_Model_signed at h
  refine xk_con (by decide) htr hok (Nat.le_of_ble_eq_true rfl) (fun p e s m below meth c ls C hne hl hP => ?_)
  have hx := C.1.1
  have hb := C.1.2.1
  have hS : va_S (xk_A ads s.heap.size) s.heap s.heap [] := va_S.rf
  have hl : lv_has ls 6 [(0, .ref (ad 0)), (1, .int x0)] := hl
  refine lv_lconst (v := 0) hx hb dd_Model_signed_0 (by decide) ?_
  refine lv_lstore_n (lv' := [(2, .long (0 : Int64)), (0, .ref (ad 0)), (1, .int x0)]) hx hb dd_Model_signed_1 rfl hl (by decide) rfl (fun ls hl => ?_)
  refine lv_sipush (v := 128) hx hb dd_Model_signed_2 (by decide) ?_
  refine lv_istore (lv' := [(4, .int (128 : Int32)), (2, .long (0 : Int64)), (0, .ref (ad 0)), (1, .int x0)]) hx hb dd_Model_signed_5 hl (by decide) rfl (fun ls hl => ?_)
  refine lv_iconst (v := 0) hx hb dd_Model_signed_7 (by decide) ?_
  refine lv_istore (lv' := [(5, .int (0 : Int32)), (4, .int (128 : Int32)), (2, .long (0 : Int64)), (0, .ref (ad 0)), (1, .int x0)]) hx hb dd_Model_signed_8 hl (by decide) rfl (fun ls hl => ?_)
  exact wj_Model_signed_10 htr C hne h hP hS (lv_sub hl [3, 4, 2, 1, 0] rfl)
abbrev rm_Model_target : Room := { frames := 4, cells := 1, slots := 6, locals := 66 }
noncomputable def jb_Model_target_17 (fu : Nat) (b1 : Int32) (u : xk_St) : Option (Int32 × xk_St) :=
  (xs_let (xs_I u 4 ((u.1 4) + (1 : Int32))) fun u3 => if b1 = (109 : Int32) then (some ((0 : Int32), u3)) else (some ((1 : Int32), u3)))
noncomputable def jb_Model_target_57 (fu : Nat) (b2 : Int64) (u : xk_St) : Option (Int32 × xk_St) :=
  if b2 ≤ (64 : Int64) then (if (0 : Int64) ≤ b2 then (some (((2 : Int32) + (b2.toInt32)), u)) else (some (((2 : Int32) + ((0 : Int64).toInt32)), u))) else (some (((2 : Int32) + ((64 : Int64).toInt32)), u))
noncomputable def fm_Model_target (fu : Nat) (u : xk_St) : Option (Int32 × xk_St) :=
  (xs_seq (fm_Model_ahead u) fun a1 u2 => if a1 = (109 : Int32) then (jb_Model_target_17 fu a1 u2) else (if a1 = (108 : Int32) then (jb_Model_target_17 fu a1 u2) else ((xs_seq (fm_Model_signed fu (33 : Int32) u2) fun a4 u5 => if (0 : Int64) ≤ a4 then (jb_Model_target_57 fu a4 u5) else ((xs_seq (fm_Model_fail (-1 : Int32) u5) fun _ u6 => jb_Model_target_57 fu a4 u6))))))
set_option maxHeartbeats 4000000 in
set_option maxRecDepth 100000 in
theorem wj_Model_target_17 {p : Program} {l : Launch} {e : Env} {s : State} {m : MethodId} {args : Array Value} {below : List Frame} {meth : Method} {c : Code} {D : va_G} {ad : Nat → Nat} {ca : Nat → ClassId} {ads : List Nat} {fu : Nat} (htr : l.stackTraces = false) (C : xk_C D kx_cl (kx_ty ca) (kw_m ad ca) ads "ModuleHouseModel" prog_14_method_15_code 4 (some .int) p e s m args meth c) (hne : c.exceptionTable.isEmpty = true) {u' : xk_St} {r : Int32} {b1 : Int32} {u : xk_St} {H : Heap} {locs : List Loc} {ls : Array Slot} (h : jb_Model_target_17 fu  b1 u = some (r, u')) (hP : va_P D kx_cl (kw_m ad ca u) H) (hS : va_S (xk_A ads s.heap.size) s.heap H locs) (hl : lv_has ls 4 [(0, .ref (ad 0)), (1, .int b1)]) : W p l e rm_Model_target s m args below meth c H locs 0 0 (xk_MQ below (xk_Qc D kx_cl (kw_m ad ca) ads (xo_i (.inl r)) u') args s (xk_A ads s.heap.size)) (F0 m 17 ls []) := by
  have hx := C.1.1
  have hb := C.1.2.1
  have hok := C.2.2.1
  unfold jb_Model_target_17 at h
  refine lv_aload_n hx hb dd_Model_target_17 rfl (lv_at hl 0 rfl) ?_
  refine lv_dup hx hb dd_Model_target_18 rfl ?_
  refine gf_m_Model_0_at C hP dd_Model_target_19 ?_
  refine lv_iconst (v := 1) hx hb dd_Model_target_22 (by decide) ?_
  refine lv_iadd hx hb dd_Model_target_23 ?_
  refine pf_m_Model_0_at C hP hS dd_Model_target_24 (fun H locs hP hS => ?_)
  obtain ⟨u3, eu3, h⟩ := xp_let h
  rw [← eu3] at hP
  refine lv_iload_n hx hb dd_Model_target_27 rfl (lv_at hl 1 rfl) ?_
  refine lv_bipush (v := 109) hx hb dd_Model_target_28 (by decide) ?_
  refine lv_icmp_ne (tgt := 37) hx hb dd_Model_target_30 (by decide) (fun hc => ?_) (fun hc => ?_)
  · have h := xp_f hc h
    refine lv_iconst (v := 1) hx hb dd_Model_target_37 (by decide) ?_
    obtain ⟨rfl, rfl⟩ := xp_r h
    exact xr_iret C hP hS dd_Model_target_38
  · have h := xp_t hc h
    refine lv_iconst (v := 0) hx hb dd_Model_target_33 (by decide) ?_
    refine lv_goto (tgt := 38) hx hb dd_Model_target_34 (by decide) ?_
    obtain ⟨rfl, rfl⟩ := xp_r h
    exact xr_iret C hP hS dd_Model_target_38
set_option maxHeartbeats 4000000 in
set_option maxRecDepth 100000 in
theorem wj_Model_target_57 {p : Program} {l : Launch} {e : Env} {s : State} {m : MethodId} {args : Array Value} {below : List Frame} {meth : Method} {c : Code} {D : va_G} {ad : Nat → Nat} {ca : Nat → ClassId} {ads : List Nat} {fu : Nat} (htr : l.stackTraces = false) (C : xk_C D kx_cl (kx_ty ca) (kw_m ad ca) ads "ModuleHouseModel" prog_14_method_15_code 4 (some .int) p e s m args meth c) (hne : c.exceptionTable.isEmpty = true) {u' : xk_St} {r : Int32} {b2 : Int64} {u : xk_St} {H : Heap} {locs : List Loc} {ls : Array Slot} (h : jb_Model_target_57 fu  b2 u = some (r, u')) (hP : va_P D kx_cl (kw_m ad ca u) H) (hS : va_S (xk_A ads s.heap.size) s.heap H locs) (hl : lv_has ls 4 [(2, .long b2)]) : W p l e rm_Model_target s m args below meth c H locs 0 0 (xk_MQ below (xk_Qc D kx_cl (kw_m ad ca) ads (xo_i (.inl r)) u') args s (xk_A ads s.heap.size)) (F0 m 57 ls []) := by
  have hx := C.1.1
  have hb := C.1.2.1
  have hok := C.2.2.1
  unfold jb_Model_target_57 at h
  refine lv_iconst (v := 2) hx hb dd_Model_target_57 (by decide) ?_
  refine lv_lload_n hx hb dd_Model_target_58 rfl (lv_at hl 0 rfl) ?_
  refine lv_ldc2 (v := 64) hx hb C.1.2.2.2.1 (C.1.2.2.2.2 _ (xk_c9 (w := Jvm.Cond.constantLong "ModuleHouseModel" 197 64) 142 rfl rfl)) dd_Model_target_59 ?_
  refine xr_lc_le (tgt := 72) hx hb dd_Model_target_62 dd_Model_target_63 (by decide) (fun hc => ?_) (fun hc => ?_)
  · have h := xp_t hc h
    refine lv_lload_n hx hb dd_Model_target_72 rfl (lv_at hl 0 rfl) ?_
    refine lv_lconst (v := 0) hx hb dd_Model_target_73 (by decide) ?_
    refine xr_lc_ge (tgt := 82) hx hb dd_Model_target_74 dd_Model_target_75 (by decide) (fun hc => ?_) (fun hc => ?_)
    · have h := xp_t hc h
      refine lv_lload_n hx hb dd_Model_target_82 rfl (lv_at hl 0 rfl) ?_
      refine lv_l2i hx hb dd_Model_target_83 rfl ?_
      refine lv_iadd hx hb dd_Model_target_84 ?_
      obtain ⟨rfl, rfl⟩ := xp_r h
      exact xr_iret C hP hS dd_Model_target_85
    · have h := xp_f hc h
      refine lv_lconst (v := 0) hx hb dd_Model_target_78 (by decide) ?_
      refine lv_goto (tgt := 83) hx hb dd_Model_target_79 (by decide) ?_
      refine lv_l2i hx hb dd_Model_target_83 rfl ?_
      refine lv_iadd hx hb dd_Model_target_84 ?_
      obtain ⟨rfl, rfl⟩ := xp_r h
      exact xr_iret C hP hS dd_Model_target_85
  · have h := xp_f hc h
    refine lv_ldc2 (v := 64) hx hb C.1.2.2.2.1 (C.1.2.2.2.2 _ (xk_c9 (w := Jvm.Cond.constantLong "ModuleHouseModel" 197 64) 142 rfl rfl)) dd_Model_target_66 ?_
    refine lv_goto (tgt := 83) hx hb dd_Model_target_69 (by decide) ?_
    refine lv_l2i hx hb dd_Model_target_83 rfl ?_
    refine lv_iadd hx hb dd_Model_target_84 ?_
    obtain ⟨rfl, rfl⟩ := xp_r h
    exact xr_iret C hP hS dd_Model_target_85
set_option maxHeartbeats 4000000 in
set_option maxRecDepth 100000 in
theorem ct_Model_target {l : Launch} {D : va_G} {ad : Nat → Nat} {ca : Nat → ClassId} {ads : List Nat} (htr : l.stackTraces = false) (hok : xk_ok (kw_m ad ca) ads) {fu : Nat} {u u' : xk_St} {r : Int32} (h : fm_Model_target fu u = some (r, u')) :
    ∀ sz, xk_Met l ⟨"ModuleHouseModel", "target", "()I"⟩ (Cond.code ⟨"ModuleHouseModel", "target", "()I"⟩ prog_14_method_15_code 4 (some .int) :: xk_gd) rm_Model_target (xk_Pc D kx_cl (kx_ty ca) (kw_m ad ca) ads xk_F sz [.ref (ad 0)] u) (xk_Qc D kx_cl (kw_m ad ca) ads (xo_i (.inl r)) u') (xk_A ads sz) := by
  unfold fm_Model_target at h
  refine xk_con (by decide) htr hok (Nat.le_of_ble_eq_true rfl) (fun p e s m below meth c ls C hne hl hP => ?_)
  have hx := C.1.1
  have hb := C.1.2.1
  have hS : va_S (xk_A ads s.heap.size) s.heap s.heap [] := va_S.rf
  have hl : lv_has ls 4 [(0, .ref (ad 0))] := hl
  refine lv_aload_n hx hb dd_Model_target_0 rfl (lv_at hl 0 rfl) ?_
  obtain ⟨a1, u2, hq, h⟩ := xp_seq h
  refine xk_goesI (xr_V (As := []) (rest := []) C hP hS (ct_Model_ahead htr hok hq) kq_Model_190 0 11 rfl rfl ⟨rfl, rfl, Nat.le_of_ble_eq_true rfl, Nat.le_of_ble_eq_true rfl⟩ ⟨Nat.le_of_ble_eq_true rfl, Nat.le_of_ble_eq_true rfl⟩ hl.1 rfl rfl (Nat.le_of_ble_eq_true rfl) dd_Model_target_1) hS (fun H locs hP hS => ?_)
  clear hq
  refine lv_istore_n (lv' := [(1, .int a1), (0, .ref (ad 0))]) hx hb dd_Model_target_4 rfl hl (by decide) rfl (fun ls hl => ?_)
  refine lv_iload_n hx hb dd_Model_target_5 rfl (lv_at hl 0 rfl) ?_
  refine lv_bipush (v := 109) hx hb dd_Model_target_6 (by decide) ?_
  refine lv_icmp_eq (tgt := 17) hx hb dd_Model_target_8 (by decide) (fun hc => ?_) (fun hc => ?_)
  · have h := xp_t hc h
    exact wj_Model_target_17 htr C hne h hP hS (lv_sub hl [1, 0] rfl)
  · have h := xp_f hc h
    refine lv_iload_n hx hb dd_Model_target_11 rfl (lv_at hl 0 rfl) ?_
    refine lv_bipush (v := 108) hx hb dd_Model_target_12 (by decide) ?_
    refine lv_icmp_ne (tgt := 39) hx hb dd_Model_target_14 (by decide) (fun hc => ?_) (fun hc => ?_)
    · have h := xp_f hc h
      refine lv_aload_n hx hb dd_Model_target_39 rfl (lv_at hl 1 rfl) ?_
      refine lv_bipush (v := 33) hx hb dd_Model_target_40 (by decide) ?_
      obtain ⟨a4, u5, hq, h⟩ := xp_seq h
      refine xk_goesL (xr_V (As := [.int (33 : Int32)]) (rest := []) C hP hS (ct_Model_signed htr hok hq) kq_Model_193 0 11 rfl rfl ⟨rfl, rfl, Nat.le_of_ble_eq_true rfl, Nat.le_of_ble_eq_true rfl⟩ ⟨Nat.le_of_ble_eq_true rfl, Nat.le_of_ble_eq_true rfl⟩ hl.1 rfl rfl (Nat.le_of_ble_eq_true rfl) dd_Model_target_42) hS (fun H locs hP hS => ?_)
      clear hq
      refine lv_lstore_n (lv' := [(2, .long a4), (1, .int a1), (0, .ref (ad 0))]) hx hb dd_Model_target_45 rfl hl (by decide) rfl (fun ls hl => ?_)
      refine lv_lload_n hx hb dd_Model_target_46 rfl (lv_at hl 0 rfl) ?_
      refine lv_lconst (v := 0) hx hb dd_Model_target_47 (by decide) ?_
      refine xr_lc_ge (tgt := 57) hx hb dd_Model_target_48 dd_Model_target_49 (by decide) (fun hc => ?_) (fun hc => ?_)
      · have h := xp_t hc h
        exact wj_Model_target_57 htr C hne h hP hS (lv_sub hl [0] rfl)
      · have h := xp_f hc h
        refine lv_aload_n hx hb dd_Model_target_52 rfl (lv_at hl 2 rfl) ?_
        refine lv_iconst (v := (-1)) hx hb dd_Model_target_53 (by decide) ?_
        obtain ⟨rx, u6, hq, h⟩ := xp_seq h
        refine xk_goesV (xr_V (As := [.int (-1 : Int32)]) (rest := []) C hP hS (ct_Model_fail htr hok hq) kq_Model_174 0 11 rfl rfl ⟨rfl, rfl, Nat.le_of_ble_eq_true rfl, Nat.le_of_ble_eq_true rfl⟩ ⟨Nat.le_of_ble_eq_true rfl, Nat.le_of_ble_eq_true rfl⟩ hl.1 rfl rfl (Nat.le_of_ble_eq_true rfl) dd_Model_target_54) hS (fun H locs hP hS => ?_)
        clear hq
        exact wj_Model_target_57 htr C hne h hP hS (lv_sub hl [0] rfl)
    · have h := xp_t hc h
      exact wj_Model_target_17 htr C hne h hP hS (lv_sub hl [1, 0] rfl)
abbrev rm_Model_valueType : Room := { frames := 5, cells := 1, slots := 6, locals := 89 }
noncomputable def jb_Model_valueType_29 (fu : Nat) (b1 : Int32) (u : xk_St) : Option (Int32 × xk_St) :=
  if b1 = (127 : Int32) then (some ((1 : Int32), u)) else (some ((2 : Int32), u))
noncomputable def jb_Model_valueType_64 (fu : Nat) (s0 : Int32) (u : xk_St) : Option (Int32 × xk_St) :=
  (xs_seq (fm_Model_reference s0 (1 : Int32) u) fun a5 u6 => some (a5, u6))
noncomputable def jb_Model_valueType_53 (fu : Nat) (b1 : Int32) (u : xk_St) : Option (Int32 × xk_St) :=
  if b1 = (109 : Int32) then (jb_Model_valueType_64 fu (0 : Int32) u) else (jb_Model_valueType_64 fu (1 : Int32) u)
noncomputable def jb_Model_valueType_84 (fu : Nat) (s0 : Int32) (s1 : Int32) (u : xk_St) : Option (Int32 × xk_St) :=
  (xs_seq (fm_Model_reference s1 s0 u) fun a9 u10 => some (a9, u10))
noncomputable def jb_Model_valueType_17 (fu : Nat) (b1 : Int32) (u : xk_St) : Option (Int32 × xk_St) :=
  if b1 = (127 : Int32) then (jb_Model_valueType_29 fu b1 u) else (if b1 = (126 : Int32) then (jb_Model_valueType_29 fu b1 u) else (if b1 = (109 : Int32) then (jb_Model_valueType_53 fu b1 u) else (if b1 = (108 : Int32) then (jb_Model_valueType_53 fu b1 u) else ((xs_seq (fm_Model_target fu u) fun a7 u8 => if b1 = (99 : Int32) then (jb_Model_valueType_84 fu (1 : Int32) a7 u8) else (jb_Model_valueType_84 fu (0 : Int32) a7 u8))))))
noncomputable def fm_Model_valueType (fu : Nat) (u : xk_St) : Option (Int32 × xk_St) :=
  (xs_seq (fm_Model_one u) fun a1 u2 => xs_seq (fm_Model_isTypeByte a1 u2) fun a3 u4 => if a3 = (0 : Int32) then ((xs_seq (fm_Model_fail (-1 : Int32) u4) fun _ u11 => jb_Model_valueType_17 fu a1 u11)) else (jb_Model_valueType_17 fu a1 u4))
set_option maxHeartbeats 4000000 in
set_option maxRecDepth 100000 in
theorem wj_Model_valueType_29 {p : Program} {l : Launch} {e : Env} {s : State} {m : MethodId} {args : Array Value} {below : List Frame} {meth : Method} {c : Code} {D : va_G} {ad : Nat → Nat} {ca : Nat → ClassId} {ads : List Nat} {fu : Nat} (htr : l.stackTraces = false) (C : xk_C D kx_cl (kx_ty ca) (kw_m ad ca) ads "ModuleHouseModel" prog_14_method_17_code 2 (some .int) p e s m args meth c) (hne : c.exceptionTable.isEmpty = true) {u' : xk_St} {r : Int32} {b1 : Int32} {u : xk_St} {H : Heap} {locs : List Loc} {ls : Array Slot} (h : jb_Model_valueType_29 fu  b1 u = some (r, u')) (hP : va_P D kx_cl (kw_m ad ca u) H) (hS : va_S (xk_A ads s.heap.size) s.heap H locs) (hl : lv_has ls 2 [(1, .int b1)]) : W p l e rm_Model_valueType s m args below meth c H locs 0 0 (xk_MQ below (xk_Qc D kx_cl (kw_m ad ca) ads (xo_i (.inl r)) u') args s (xk_A ads s.heap.size)) (F0 m 29 ls []) := by
  have hx := C.1.1
  have hb := C.1.2.1
  have hok := C.2.2.1
  unfold jb_Model_valueType_29 at h
  refine lv_iload_n hx hb dd_Model_valueType_29 rfl (lv_at hl 0 rfl) ?_
  refine lv_bipush (v := 127) hx hb dd_Model_valueType_30 (by decide) ?_
  refine lv_icmp_ne (tgt := 39) hx hb dd_Model_valueType_32 (by decide) (fun hc => ?_) (fun hc => ?_)
  · have h := xp_f hc h
    refine lv_iconst (v := 2) hx hb dd_Model_valueType_39 (by decide) ?_
    obtain ⟨rfl, rfl⟩ := xp_r h
    exact xr_iret C hP hS dd_Model_valueType_40
  · have h := xp_t hc h
    refine lv_iconst (v := 1) hx hb dd_Model_valueType_35 (by decide) ?_
    refine lv_goto (tgt := 40) hx hb dd_Model_valueType_36 (by decide) ?_
    obtain ⟨rfl, rfl⟩ := xp_r h
    exact xr_iret C hP hS dd_Model_valueType_40
set_option maxHeartbeats 4000000 in
set_option maxRecDepth 100000 in
theorem wj_Model_valueType_64 {p : Program} {l : Launch} {e : Env} {s : State} {m : MethodId} {args : Array Value} {below : List Frame} {meth : Method} {c : Code} {D : va_G} {ad : Nat → Nat} {ca : Nat → ClassId} {ads : List Nat} {fu : Nat} (htr : l.stackTraces = false) (C : xk_C D kx_cl (kx_ty ca) (kw_m ad ca) ads "ModuleHouseModel" prog_14_method_17_code 2 (some .int) p e s m args meth c) (hne : c.exceptionTable.isEmpty = true) {u' : xk_St} {r : Int32} {s0 : Int32} {u : xk_St} {H : Heap} {locs : List Loc} {ls : Array Slot} (h : jb_Model_valueType_64 fu  s0 u = some (r, u')) (hP : va_P D kx_cl (kw_m ad ca u) H) (hS : va_S (xk_A ads s.heap.size) s.heap H locs) (hl : lv_has ls 2 []) : W p l e rm_Model_valueType s m args below meth c H locs 0 0 (xk_MQ below (xk_Qc D kx_cl (kw_m ad ca) ads (xo_i (.inl r)) u') args s (xk_A ads s.heap.size)) (F0 m 64 ls [.int s0]) := by
  have hx := C.1.1
  have hb := C.1.2.1
  have hok := C.2.2.1
  unfold jb_Model_valueType_64 at h
  refine lv_iconst (v := 1) hx hb dd_Model_valueType_64 (by decide) ?_
  obtain ⟨a5, u6, hq, h⟩ := xp_seq h
  refine xk_goesI (xr_S (As := [.int s0, .int (1 : Int32)]) (rest := []) C hP hS (ct_Model_reference htr hok hq) kq_Model_203 ⟨rfl, rfl, Nat.le_of_ble_eq_true rfl, Nat.le_of_ble_eq_true rfl⟩ ⟨Nat.le_of_ble_eq_true rfl, Nat.le_of_ble_eq_true rfl⟩ hl.1 rfl rfl (Nat.le_of_ble_eq_true rfl) dd_Model_valueType_65) hS (fun H locs hP hS => ?_)
  clear hq
  obtain ⟨rfl, rfl⟩ := xp_r h
  exact xr_iret C hP hS dd_Model_valueType_68
set_option maxHeartbeats 4000000 in
set_option maxRecDepth 100000 in
theorem wj_Model_valueType_53 {p : Program} {l : Launch} {e : Env} {s : State} {m : MethodId} {args : Array Value} {below : List Frame} {meth : Method} {c : Code} {D : va_G} {ad : Nat → Nat} {ca : Nat → ClassId} {ads : List Nat} {fu : Nat} (htr : l.stackTraces = false) (C : xk_C D kx_cl (kx_ty ca) (kw_m ad ca) ads "ModuleHouseModel" prog_14_method_17_code 2 (some .int) p e s m args meth c) (hne : c.exceptionTable.isEmpty = true) {u' : xk_St} {r : Int32} {b1 : Int32} {u : xk_St} {H : Heap} {locs : List Loc} {ls : Array Slot} (h : jb_Model_valueType_53 fu  b1 u = some (r, u')) (hP : va_P D kx_cl (kw_m ad ca u) H) (hS : va_S (xk_A ads s.heap.size) s.heap H locs) (hl : lv_has ls 2 [(1, .int b1)]) : W p l e rm_Model_valueType s m args below meth c H locs 0 0 (xk_MQ below (xk_Qc D kx_cl (kw_m ad ca) ads (xo_i (.inl r)) u') args s (xk_A ads s.heap.size)) (F0 m 53 ls []) := by
  have hx := C.1.1
  have hb := C.1.2.1
  have hok := C.2.2.1
  unfold jb_Model_valueType_53 at h
  refine lv_iload_n hx hb dd_Model_valueType_53 rfl (lv_at hl 0 rfl) ?_
  refine lv_bipush (v := 109) hx hb dd_Model_valueType_54 (by decide) ?_
  refine lv_icmp_ne (tgt := 63) hx hb dd_Model_valueType_56 (by decide) (fun hc => ?_) (fun hc => ?_)
  · have h := xp_f hc h
    refine lv_iconst (v := 1) hx hb dd_Model_valueType_63 (by decide) ?_
    exact wj_Model_valueType_64 htr C hne h hP hS (lv_sub hl [] rfl)
  · have h := xp_t hc h
    refine lv_iconst (v := 0) hx hb dd_Model_valueType_59 (by decide) ?_
    refine lv_goto (tgt := 64) hx hb dd_Model_valueType_60 (by decide) ?_
    exact wj_Model_valueType_64 htr C hne h hP hS (lv_sub hl [] rfl)
set_option maxHeartbeats 4000000 in
set_option maxRecDepth 100000 in
theorem wj_Model_valueType_84 {p : Program} {l : Launch} {e : Env} {s : State} {m : MethodId} {args : Array Value} {below : List Frame} {meth : Method} {c : Code} {D : va_G} {ad : Nat → Nat} {ca : Nat → ClassId} {ads : List Nat} {fu : Nat} (htr : l.stackTraces = false) (C : xk_C D kx_cl (kx_ty ca) (kw_m ad ca) ads "ModuleHouseModel" prog_14_method_17_code 2 (some .int) p e s m args meth c) (hne : c.exceptionTable.isEmpty = true) {u' : xk_St} {r : Int32} {s0 : Int32} {s1 : Int32} {u : xk_St} {H : Heap} {locs : List Loc} {ls : Array Slot} (h : jb_Model_valueType_84 fu  s0 s1 u = some (r, u')) (hP : va_P D kx_cl (kw_m ad ca u) H) (hS : va_S (xk_A ads s.heap.size) s.heap H locs) (hl : lv_has ls 2 []) : W p l e rm_Model_valueType s m args below meth c H locs 0 0 (xk_MQ below (xk_Qc D kx_cl (kw_m ad ca) ads (xo_i (.inl r)) u') args s (xk_A ads s.heap.size)) (F0 m 84 ls [.int s0, .int s1]) := by
  have hx := C.1.1
  have hb := C.1.2.1
  have hok := C.2.2.1
  unfold jb_Model_valueType_84 at h
  obtain ⟨a9, u10, hq, h⟩ := xp_seq h
  refine xk_goesI (xr_S (As := [.int s1, .int s0]) (rest := []) C hP hS (ct_Model_reference htr hok hq) kq_Model_203 ⟨rfl, rfl, Nat.le_of_ble_eq_true rfl, Nat.le_of_ble_eq_true rfl⟩ ⟨Nat.le_of_ble_eq_true rfl, Nat.le_of_ble_eq_true rfl⟩ hl.1 rfl rfl (Nat.le_of_ble_eq_true rfl) dd_Model_valueType_84) hS (fun H locs hP hS => ?_)
  clear hq
  obtain ⟨rfl, rfl⟩ := xp_r h
  exact xr_iret C hP hS dd_Model_valueType_87
set_option maxHeartbeats 4000000 in
set_option maxRecDepth 100000 in
theorem wj_Model_valueType_17 {p : Program} {l : Launch} {e : Env} {s : State} {m : MethodId} {args : Array Value} {below : List Frame} {meth : Method} {c : Code} {D : va_G} {ad : Nat → Nat} {ca : Nat → ClassId} {ads : List Nat} {fu : Nat} (htr : l.stackTraces = false) (C : xk_C D kx_cl (kx_ty ca) (kw_m ad ca) ads "ModuleHouseModel" prog_14_method_17_code 2 (some .int) p e s m args meth c) (hne : c.exceptionTable.isEmpty = true) {u' : xk_St} {r : Int32} {b1 : Int32} {u : xk_St} {H : Heap} {locs : List Loc} {ls : Array Slot} (h : jb_Model_valueType_17 fu  b1 u = some (r, u')) (hP : va_P D kx_cl (kw_m ad ca u) H) (hS : va_S (xk_A ads s.heap.size) s.heap H locs) (hl : lv_has ls 2 [(0, .ref (ad 0)), (1, .int b1)]) : W p l e rm_Model_valueType s m args below meth c H locs 0 0 (xk_MQ below (xk_Qc D kx_cl (kw_m ad ca) ads (xo_i (.inl r)) u') args s (xk_A ads s.heap.size)) (F0 m 17 ls []) := by
  have hx := C.1.1
  have hb := C.1.2.1
  have hok := C.2.2.1
  unfold jb_Model_valueType_17 at h
  refine lv_iload_n hx hb dd_Model_valueType_17 rfl (lv_at hl 1 rfl) ?_
  refine lv_bipush (v := 127) hx hb dd_Model_valueType_18 (by decide) ?_
  refine lv_icmp_eq (tgt := 29) hx hb dd_Model_valueType_20 (by decide) (fun hc => ?_) (fun hc => ?_)
  · have h := xp_t hc h
    exact wj_Model_valueType_29 htr C hne h hP hS (lv_sub hl [1] rfl)
  · have h := xp_f hc h
    refine lv_iload_n hx hb dd_Model_valueType_23 rfl (lv_at hl 1 rfl) ?_
    refine lv_bipush (v := 126) hx hb dd_Model_valueType_24 (by decide) ?_
    refine lv_icmp_ne (tgt := 41) hx hb dd_Model_valueType_26 (by decide) (fun hc => ?_) (fun hc => ?_)
    · have h := xp_f hc h
      refine lv_iload_n hx hb dd_Model_valueType_41 rfl (lv_at hl 1 rfl) ?_
      refine lv_bipush (v := 109) hx hb dd_Model_valueType_42 (by decide) ?_
      refine lv_icmp_eq (tgt := 53) hx hb dd_Model_valueType_44 (by decide) (fun hc => ?_) (fun hc => ?_)
      · have h := xp_t hc h
        exact wj_Model_valueType_53 htr C hne h hP hS (lv_sub hl [1] rfl)
      · have h := xp_f hc h
        refine lv_iload_n hx hb dd_Model_valueType_47 rfl (lv_at hl 1 rfl) ?_
        refine lv_bipush (v := 108) hx hb dd_Model_valueType_48 (by decide) ?_
        refine lv_icmp_ne (tgt := 69) hx hb dd_Model_valueType_50 (by decide) (fun hc => ?_) (fun hc => ?_)
        · have h := xp_f hc h
          refine lv_aload_n hx hb dd_Model_valueType_69 rfl (lv_at hl 0 rfl) ?_
          obtain ⟨a7, u8, hq, h⟩ := xp_seq h
          refine xk_goesI (xr_V (As := []) (rest := []) C hP hS (ct_Model_target htr hok hq) kq_Model_207 0 11 rfl rfl ⟨rfl, rfl, Nat.le_of_ble_eq_true rfl, Nat.le_of_ble_eq_true rfl⟩ ⟨Nat.le_of_ble_eq_true rfl, Nat.le_of_ble_eq_true rfl⟩ hl.1 rfl rfl (Nat.le_of_ble_eq_true rfl) dd_Model_valueType_70) hS (fun H locs hP hS => ?_)
          clear hq
          refine lv_iload_n hx hb dd_Model_valueType_73 rfl (lv_at hl 1 rfl) ?_
          refine lv_bipush (v := 99) hx hb dd_Model_valueType_74 (by decide) ?_
          refine lv_icmp_ne (tgt := 83) hx hb dd_Model_valueType_76 (by decide) (fun hc => ?_) (fun hc => ?_)
          · have h := xp_f hc h
            refine lv_iconst (v := 0) hx hb dd_Model_valueType_83 (by decide) ?_
            exact wj_Model_valueType_84 htr C hne h hP hS (lv_sub hl [] rfl)
          · have h := xp_t hc h
            refine lv_iconst (v := 1) hx hb dd_Model_valueType_79 (by decide) ?_
            refine lv_goto (tgt := 84) hx hb dd_Model_valueType_80 (by decide) ?_
            exact wj_Model_valueType_84 htr C hne h hP hS (lv_sub hl [] rfl)
        · have h := xp_t hc h
          exact wj_Model_valueType_53 htr C hne h hP hS (lv_sub hl [1] rfl)
    · have h := xp_t hc h
      exact wj_Model_valueType_29 htr C hne h hP hS (lv_sub hl [1] rfl)
set_option maxHeartbeats 4000000 in
set_option maxRecDepth 100000 in
theorem ct_Model_valueType {l : Launch} {D : va_G} {ad : Nat → Nat} {ca : Nat → ClassId} {ads : List Nat} (htr : l.stackTraces = false) (hok : xk_ok (kw_m ad ca) ads) {fu : Nat} {u u' : xk_St} {r : Int32} (h : fm_Model_valueType fu u = some (r, u')) :
    ∀ sz, xk_Met l ⟨"ModuleHouseModel", "valueType", "()I"⟩ (Cond.code ⟨"ModuleHouseModel", "valueType", "()I"⟩ prog_14_method_17_code 2 (some .int) :: xk_gd) rm_Model_valueType (xk_Pc D kx_cl (kx_ty ca) (kw_m ad ca) ads xk_F sz [.ref (ad 0)] u) (xk_Qc D kx_cl (kw_m ad ca) ads (xo_i (.inl r)) u') (xk_A ads sz) := by
  unfold fm_Model_valueType at h
  refine xk_con (by decide) htr hok (Nat.le_of_ble_eq_true rfl) (fun p e s m below meth c ls C hne hl hP => ?_)
  have hx := C.1.1
  have hb := C.1.2.1
  have hS : va_S (xk_A ads s.heap.size) s.heap s.heap [] := va_S.rf
  have hl : lv_has ls 2 [(0, .ref (ad 0))] := hl
  refine lv_aload_n hx hb dd_Model_valueType_0 rfl (lv_at hl 0 rfl) ?_
  obtain ⟨a1, u2, hq, h⟩ := xp_seq h
  refine xk_goesI (xr_V (As := []) (rest := []) C hP hS (ct_Model_one htr hok hq) kq_Model_178 0 11 rfl rfl ⟨rfl, rfl, Nat.le_of_ble_eq_true rfl, Nat.le_of_ble_eq_true rfl⟩ ⟨Nat.le_of_ble_eq_true rfl, Nat.le_of_ble_eq_true rfl⟩ hl.1 rfl rfl (Nat.le_of_ble_eq_true rfl) dd_Model_valueType_1) hS (fun H locs hP hS => ?_)
  clear hq
  refine lv_istore_n (lv' := [(1, .int a1), (0, .ref (ad 0))]) hx hb dd_Model_valueType_4 rfl hl (by decide) rfl (fun ls hl => ?_)
  refine lv_iload_n hx hb dd_Model_valueType_5 rfl (lv_at hl 0 rfl) ?_
  obtain ⟨a3, u4, hq, h⟩ := xp_seq h
  refine xk_goesI (xr_S (As := [.int a1]) (rest := []) C hP hS (ct_Model_isTypeByte htr hok hq) kq_Model_199 ⟨rfl, rfl, Nat.le_of_ble_eq_true rfl, Nat.le_of_ble_eq_true rfl⟩ ⟨Nat.le_of_ble_eq_true rfl, Nat.le_of_ble_eq_true rfl⟩ hl.1 rfl rfl (Nat.le_of_ble_eq_true rfl) dd_Model_valueType_6) hS (fun H locs hP hS => ?_)
  clear hq
  refine lv_if_ne (tgt := 17) hx hb dd_Model_valueType_9 (by decide) (fun hc => ?_) (fun hc => ?_)
  · have h := xp_f hc h
    exact wj_Model_valueType_17 htr C hne h hP hS (lv_sub hl [1, 0] rfl)
  · have h := xp_t hc h
    refine lv_aload_n hx hb dd_Model_valueType_12 rfl (lv_at hl 1 rfl) ?_
    refine lv_iconst (v := (-1)) hx hb dd_Model_valueType_13 (by decide) ?_
    obtain ⟨rx, u11, hq, h⟩ := xp_seq h
    refine xk_goesV (xr_V (As := [.int (-1 : Int32)]) (rest := []) C hP hS (ct_Model_fail htr hok hq) kq_Model_174 0 11 rfl rfl ⟨rfl, rfl, Nat.le_of_ble_eq_true rfl, Nat.le_of_ble_eq_true rfl⟩ ⟨Nat.le_of_ble_eq_true rfl, Nat.le_of_ble_eq_true rfl⟩ hl.1 rfl rfl (Nat.le_of_ble_eq_true rfl) dd_Model_valueType_14) hS (fun H locs hP hS => ?_)
    clear hq
    exact wj_Model_valueType_17 htr C hne h hP hS (lv_sub hl [1, 0] rfl)
abbrev rm_Model_fieldType : Room := { frames := 6, cells := 1, slots := 6, locals := 110 }
noncomputable def jb_Model_fieldType_22 (fu : Nat) (b1 : Int32) (u : xk_St) : Option (Int32 × xk_St) :=
  (xs_let (xs_I u 4 ((u.1 4) + (1 : Int32))) fun u3 => if b1 = (120 : Int32) then (some ((3 : Int32), u3)) else (some ((4 : Int32), u3)))
noncomputable def fm_Model_fieldType (fu : Nat) (u : xk_St) : Option (Int32 × xk_St) :=
  (xs_seq (fm_Model_ahead u) fun a1 u2 => if a1 = (120 : Int32) then (jb_Model_fieldType_22 fu a1 u2) else (if a1 = (119 : Int32) then (jb_Model_fieldType_22 fu a1 u2) else ((xs_seq (fm_Model_valueType fu u2) fun a4 u5 => some (a4, u5)))))
set_option maxHeartbeats 4000000 in
set_option maxRecDepth 100000 in
theorem wj_Model_fieldType_22 {p : Program} {l : Launch} {e : Env} {s : State} {m : MethodId} {args : Array Value} {below : List Frame} {meth : Method} {c : Code} {D : va_G} {ad : Nat → Nat} {ca : Nat → ClassId} {ads : List Nat} {fu : Nat} (htr : l.stackTraces = false) (C : xk_C D kx_cl (kx_ty ca) (kw_m ad ca) ads "ModuleHouseModel" prog_14_method_18_code 2 (some .int) p e s m args meth c) (hne : c.exceptionTable.isEmpty = true) {u' : xk_St} {r : Int32} {b1 : Int32} {u : xk_St} {H : Heap} {locs : List Loc} {ls : Array Slot} (h : jb_Model_fieldType_22 fu  b1 u = some (r, u')) (hP : va_P D kx_cl (kw_m ad ca u) H) (hS : va_S (xk_A ads s.heap.size) s.heap H locs) (hl : lv_has ls 2 [(0, .ref (ad 0)), (1, .int b1)]) : W p l e rm_Model_fieldType s m args below meth c H locs 0 0 (xk_MQ below (xk_Qc D kx_cl (kw_m ad ca) ads (xo_i (.inl r)) u') args s (xk_A ads s.heap.size)) (F0 m 22 ls []) := by
  have hx := C.1.1
  have hb := C.1.2.1
  have hok := C.2.2.1
  unfold jb_Model_fieldType_22 at h
  refine lv_aload_n hx hb dd_Model_fieldType_22 rfl (lv_at hl 0 rfl) ?_
  refine lv_dup hx hb dd_Model_fieldType_23 rfl ?_
  refine gf_m_Model_0_at C hP dd_Model_fieldType_24 ?_
  refine lv_iconst (v := 1) hx hb dd_Model_fieldType_27 (by decide) ?_
  refine lv_iadd hx hb dd_Model_fieldType_28 ?_
  refine pf_m_Model_0_at C hP hS dd_Model_fieldType_29 (fun H locs hP hS => ?_)
  obtain ⟨u3, eu3, h⟩ := xp_let h
  rw [← eu3] at hP
  refine lv_iload_n hx hb dd_Model_fieldType_32 rfl (lv_at hl 1 rfl) ?_
  refine lv_bipush (v := 120) hx hb dd_Model_fieldType_33 (by decide) ?_
  refine lv_icmp_ne (tgt := 42) hx hb dd_Model_fieldType_35 (by decide) (fun hc => ?_) (fun hc => ?_)
  · have h := xp_f hc h
    refine lv_iconst (v := 4) hx hb dd_Model_fieldType_42 (by decide) ?_
    obtain ⟨rfl, rfl⟩ := xp_r h
    exact xr_iret C hP hS dd_Model_fieldType_43
  · have h := xp_t hc h
    refine lv_iconst (v := 3) hx hb dd_Model_fieldType_38 (by decide) ?_
    refine lv_goto (tgt := 43) hx hb dd_Model_fieldType_39 (by decide) ?_
    obtain ⟨rfl, rfl⟩ := xp_r h
    exact xr_iret C hP hS dd_Model_fieldType_43
set_option maxHeartbeats 4000000 in
set_option maxRecDepth 100000 in
theorem ct_Model_fieldType {l : Launch} {D : va_G} {ad : Nat → Nat} {ca : Nat → ClassId} {ads : List Nat} (htr : l.stackTraces = false) (hok : xk_ok (kw_m ad ca) ads) {fu : Nat} {u u' : xk_St} {r : Int32} (h : fm_Model_fieldType fu u = some (r, u')) :
    ∀ sz, xk_Met l ⟨"ModuleHouseModel", "fieldType", "()I"⟩ (Cond.code ⟨"ModuleHouseModel", "fieldType", "()I"⟩ prog_14_method_18_code 2 (some .int) :: xk_gd) rm_Model_fieldType (xk_Pc D kx_cl (kx_ty ca) (kw_m ad ca) ads xk_F sz [.ref (ad 0)] u) (xk_Qc D kx_cl (kw_m ad ca) ads (xo_i (.inl r)) u') (xk_A ads sz) := by
  unfold fm_Model_fieldType at h
  refine xk_con (by decide) htr hok (Nat.le_of_ble_eq_true rfl) (fun p e s m below meth c ls C hne hl hP => ?_)
  have hx := C.1.1
  have hb := C.1.2.1
  have hS : va_S (xk_A ads s.heap.size) s.heap s.heap [] := va_S.rf
  have hl : lv_has ls 2 [(0, .ref (ad 0))] := hl
  refine lv_aload_n hx hb dd_Model_fieldType_0 rfl (lv_at hl 0 rfl) ?_
  obtain ⟨a1, u2, hq, h⟩ := xp_seq h
  refine xk_goesI (xr_V (As := []) (rest := []) C hP hS (ct_Model_ahead htr hok hq) kq_Model_190 0 11 rfl rfl ⟨rfl, rfl, Nat.le_of_ble_eq_true rfl, Nat.le_of_ble_eq_true rfl⟩ ⟨Nat.le_of_ble_eq_true rfl, Nat.le_of_ble_eq_true rfl⟩ hl.1 rfl rfl (Nat.le_of_ble_eq_true rfl) dd_Model_fieldType_1) hS (fun H locs hP hS => ?_)
  clear hq
  refine lv_istore_n (lv' := [(1, .int a1), (0, .ref (ad 0))]) hx hb dd_Model_fieldType_4 rfl hl (by decide) rfl (fun ls hl => ?_)
  refine lv_iload_n hx hb dd_Model_fieldType_5 rfl (lv_at hl 0 rfl) ?_
  refine lv_bipush (v := 120) hx hb dd_Model_fieldType_6 (by decide) ?_
  refine lv_icmp_eq (tgt := 22) hx hb dd_Model_fieldType_8 (by decide) (fun hc => ?_) (fun hc => ?_)
  · have h := xp_t hc h
    exact wj_Model_fieldType_22 htr C hne h hP hS (lv_sub hl [1, 0] rfl)
  · have h := xp_f hc h
    refine lv_iload_n hx hb dd_Model_fieldType_11 rfl (lv_at hl 0 rfl) ?_
    refine lv_bipush (v := 119) hx hb dd_Model_fieldType_12 (by decide) ?_
    refine lv_icmp_eq (tgt := 22) hx hb dd_Model_fieldType_14 (by decide) (fun hc => ?_) (fun hc => ?_)
    · have h := xp_t hc h
      exact wj_Model_fieldType_22 htr C hne h hP hS (lv_sub hl [1, 0] rfl)
    · have h := xp_f hc h
      refine lv_aload_n hx hb dd_Model_fieldType_17 rfl (lv_at hl 1 rfl) ?_
      obtain ⟨a4, u5, hq, h⟩ := xp_seq h
      refine xk_goesI (xr_V (As := []) (rest := []) C hP hS (ct_Model_valueType htr hok hq) kq_Model_210 0 11 rfl rfl ⟨rfl, rfl, Nat.le_of_ble_eq_true rfl, Nat.le_of_ble_eq_true rfl⟩ ⟨Nat.le_of_ble_eq_true rfl, Nat.le_of_ble_eq_true rfl⟩ hl.1 rfl rfl (Nat.le_of_ble_eq_true rfl) dd_Model_fieldType_18) hS (fun H locs hP hS => ?_)
      clear hq
      obtain ⟨rfl, rfl⟩ := xp_r h
      exact xr_iret C hP hS dd_Model_fieldType_21
abbrev rm_Model_flag : Room := { frames := 3, cells := 1, slots := 6, locals := 41 }
noncomputable def fm_Model_flag (u : xk_St) : Option (Int32 × xk_St) :=
  (xs_seq (fm_Model_one u) fun a1 u2 => if a1 ≤ (1 : Int32) then (some (a1, u2)) else ((xs_seq (fm_Model_fail (-1 : Int32) u2) fun _ u3 => some (a1, u3))))
set_option maxHeartbeats 4000000 in
set_option maxRecDepth 100000 in
theorem ct_Model_flag {l : Launch} {D : va_G} {ad : Nat → Nat} {ca : Nat → ClassId} {ads : List Nat} (htr : l.stackTraces = false) (hok : xk_ok (kw_m ad ca) ads) {u u' : xk_St} {r : Int32} (h : fm_Model_flag u = some (r, u')) :
    ∀ sz, xk_Met l ⟨"ModuleHouseModel", "flag", "()I"⟩ (Cond.code ⟨"ModuleHouseModel", "flag", "()I"⟩ prog_14_method_13_code 2 (some .int) :: xk_gd) rm_Model_flag (xk_Pc D kx_cl (kx_ty ca) (kw_m ad ca) ads xk_F sz [.ref (ad 0)] u) (xk_Qc D kx_cl (kw_m ad ca) ads (xo_i (.inl r)) u') (xk_A ads sz) := by
  unfold fm_Model_flag at h
  refine xk_con (by decide) htr hok (Nat.le_of_ble_eq_true rfl) (fun p e s m below meth c ls C hne hl hP => ?_)
  have hx := C.1.1
  have hb := C.1.2.1
  have hS : va_S (xk_A ads s.heap.size) s.heap s.heap [] := va_S.rf
  have hl : lv_has ls 2 [(0, .ref (ad 0))] := hl
  refine lv_aload_n hx hb dd_Model_flag_0 rfl (lv_at hl 0 rfl) ?_
  obtain ⟨a1, u2, hq, h⟩ := xp_seq h
  refine xk_goesI (xr_V (As := []) (rest := []) C hP hS (ct_Model_one htr hok hq) kq_Model_178 0 11 rfl rfl ⟨rfl, rfl, Nat.le_of_ble_eq_true rfl, Nat.le_of_ble_eq_true rfl⟩ ⟨Nat.le_of_ble_eq_true rfl, Nat.le_of_ble_eq_true rfl⟩ hl.1 rfl rfl (Nat.le_of_ble_eq_true rfl) dd_Model_flag_1) hS (fun H locs hP hS => ?_)
  clear hq
  refine lv_istore_n (lv' := [(1, .int a1), (0, .ref (ad 0))]) hx hb dd_Model_flag_4 rfl hl (by decide) rfl (fun ls hl => ?_)
  refine lv_iload_n hx hb dd_Model_flag_5 rfl (lv_at hl 0 rfl) ?_
  refine lv_iconst (v := 1) hx hb dd_Model_flag_6 (by decide) ?_
  refine lv_icmp_le (tgt := 15) hx hb dd_Model_flag_7 (by decide) (fun hc => ?_) (fun hc => ?_)
  · have h := xp_t hc h
    refine lv_iload_n hx hb dd_Model_flag_15 rfl (lv_at hl 0 rfl) ?_
    obtain ⟨rfl, rfl⟩ := xp_r h
    exact xr_iret C hP hS dd_Model_flag_16
  · have h := xp_f hc h
    refine lv_aload_n hx hb dd_Model_flag_10 rfl (lv_at hl 1 rfl) ?_
    refine lv_iconst (v := (-1)) hx hb dd_Model_flag_11 (by decide) ?_
    obtain ⟨rx, u3, hq, h⟩ := xp_seq h
    refine xk_goesV (xr_V (As := [.int (-1 : Int32)]) (rest := []) C hP hS (ct_Model_fail htr hok hq) kq_Model_174 0 11 rfl rfl ⟨rfl, rfl, Nat.le_of_ble_eq_true rfl, Nat.le_of_ble_eq_true rfl⟩ ⟨Nat.le_of_ble_eq_true rfl, Nat.le_of_ble_eq_true rfl⟩ hl.1 rfl rfl (Nat.le_of_ble_eq_true rfl) dd_Model_flag_12) hS (fun H locs hP hS => ?_)
    clear hq
    refine lv_iload_n hx hb dd_Model_flag_15 rfl (lv_at hl 0 rfl) ?_
    obtain ⟨rfl, rfl⟩ := xp_r h
    exact xr_iret C hP hS dd_Model_flag_16
abbrev rm_Model_valueRow : Room := { frames := 6, cells := 1, slots := 6, locals := 110 }
noncomputable def jb_Model_valueRow_5 (fu : Nat) : Nat → Int64 → xk_St → Option (Unit × xk_St)
  | 0 => fun _ _ => none
  | n + 1 => fun b1 u =>
    xs_let (jb_Model_valueRow_5 fu  n) fun k5 =>
    if b1 ≤ (0 : Int64) then (some ((()), u)) else (if (u.1 6) = (0 : Int32) then ((xs_seq (fm_Model_valueType fu u) fun a3 u4 => xs_let (b1 - (1 : Int64)) fun a5 => k5 a5 u4)) else (some ((()), u)))
noncomputable def fm_Model_valueRow (fu : Nat) (u : xk_St) : Option (Unit × xk_St) :=
  (xs_seq (fm_Model_number fu u) fun a1 u2 => jb_Model_valueRow_5 fu fu a1 u2)
set_option maxHeartbeats 4000000 in
set_option maxRecDepth 100000 in
theorem wj_Model_valueRow_5 {p : Program} {l : Launch} {e : Env} {s : State} {m : MethodId} {args : Array Value} {below : List Frame} {meth : Method} {c : Code} {D : va_G} {ad : Nat → Nat} {ca : Nat → ClassId} {ads : List Nat} {fu : Nat} (htr : l.stackTraces = false) (C : xk_C D kx_cl (kx_ty ca) (kw_m ad ca) ads "ModuleHouseModel" prog_14_method_30_code 3 none p e s m args meth c) (hne : c.exceptionTable.isEmpty = true) {u' : xk_St} {r : Unit} : ∀ {n : Nat} {b1 : Int64} {u : xk_St} {H : Heap} {locs : List Loc} {ls : Array Slot} (h : jb_Model_valueRow_5 fu  n b1 u = some (r, u')) (hP : va_P D kx_cl (kw_m ad ca u) H) (hS : va_S (xk_A ads s.heap.size) s.heap H locs) (hl : lv_has ls 3 [(0, .ref (ad 0)), (1, .long b1)]), W p l e rm_Model_valueRow s m args below meth c H locs 0 0 (xk_MQ below (xk_Qc D kx_cl (kw_m ad ca) ads (xo_v (.inl r)) u') args s (xk_A ads s.heap.size)) (F0 m 5 ls []) := by
  intro n
  have hx := C.1.1
  have hb := C.1.2.1
  have hok := C.2.2.1
  induction n with
  | zero =>
    intro _ u H locs ls h
    have h : none = some (r, u') := h
    cases h
  | succ n ih =>
    intro b1 u H locs ls h hP hS hl
    unfold jb_Model_valueRow_5 at h
    obtain ⟨k5, ek5, h⟩ := xp_let h
    have hk5 : ∀ (c0 : Int64) (u : xk_St) (H : Heap) (locs : List Loc) (ls : Array Slot), k5 c0 u = some (r, u') → va_P D kx_cl (kw_m ad ca u) H → va_S (xk_A ads s.heap.size) s.heap H locs → lv_has ls 3 [(0, .ref (ad 0)), (1, .long c0)] → W p l e rm_Model_valueRow s m args below meth c H locs 0 0 (xk_MQ below (xk_Qc D kx_cl (kw_m ad ca) ads (xo_v (.inl r)) u') args s (xk_A ads s.heap.size)) (F0 m 5 ls []) := by
      intro c0 u H locs ls h hP hS hl
      subst ek5
      exact ih h hP hS hl
    clear ih ek5
    refine lv_lload_n hx hb dd_Model_valueRow_5 rfl (lv_at hl 1 rfl) ?_
    refine lv_lconst (v := 0) hx hb dd_Model_valueRow_6 (by decide) ?_
    refine xr_lc_le (tgt := 30) hx hb dd_Model_valueRow_7 dd_Model_valueRow_8 (by decide) (fun hc => ?_) (fun hc => ?_)
    · have h := xp_t hc h
      obtain ⟨rfl, rfl⟩ := xp_r h
      exact xr_vret C hP hS dd_Model_valueRow_30
    · have h := xp_f hc h
      refine lv_aload_n hx hb dd_Model_valueRow_11 rfl (lv_at hl 0 rfl) ?_
      refine gf_m_Model_0_bad C hP dd_Model_valueRow_12 ?_
      refine lv_if_ne (tgt := 30) hx hb dd_Model_valueRow_15 (by decide) (fun hc => ?_) (fun hc => ?_)
      · have h := xp_f hc h
        obtain ⟨rfl, rfl⟩ := xp_r h
        exact xr_vret C hP hS dd_Model_valueRow_30
      · have h := xp_t hc h
        refine lv_aload_n hx hb dd_Model_valueRow_18 rfl (lv_at hl 0 rfl) ?_
        obtain ⟨a3, u4, hq, h⟩ := xp_seq h
        refine xk_goesI (xr_V (As := []) (rest := []) C hP hS (ct_Model_valueType htr hok hq) kq_Model_210 0 11 rfl rfl ⟨rfl, rfl, Nat.le_of_ble_eq_true rfl, Nat.le_of_ble_eq_true rfl⟩ ⟨Nat.le_of_ble_eq_true rfl, Nat.le_of_ble_eq_true rfl⟩ hl.1 rfl rfl (Nat.le_of_ble_eq_true rfl) dd_Model_valueRow_19) hS (fun H locs hP hS => ?_)
        clear hq
        refine lv_pop hx hb dd_Model_valueRow_22 rfl ?_
        refine lv_lload_n hx hb dd_Model_valueRow_23 rfl (lv_at hl 1 rfl) ?_
        refine lv_lconst (v := 1) hx hb dd_Model_valueRow_24 (by decide) ?_
        refine lv_lsub hx hb dd_Model_valueRow_25 ?_
        obtain ⟨a5, ea5, h⟩ := xp_let h
        refine xr_naml ea5 ?_
        refine lv_lstore_n (lv' := [(1, .long a5), (0, .ref (ad 0))]) hx hb dd_Model_valueRow_26 rfl hl (by decide) rfl (fun ls hl => ?_)
        refine lv_goto (tgt := 5) hx hb dd_Model_valueRow_27 (by decide) ?_
        exact hk5 a5 u4 _ _ _ h hP hS (lv_sub hl [1, 0] rfl)
set_option maxHeartbeats 4000000 in
set_option maxRecDepth 100000 in
theorem ct_Model_valueRow {l : Launch} {D : va_G} {ad : Nat → Nat} {ca : Nat → ClassId} {ads : List Nat} (htr : l.stackTraces = false) (hok : xk_ok (kw_m ad ca) ads) {fu : Nat} {u u' : xk_St} {r : Unit} (h : fm_Model_valueRow fu u = some (r, u')) :
    ∀ sz, xk_Met l ⟨"ModuleHouseModel", "valueRow", "()V"⟩ (Cond.code ⟨"ModuleHouseModel", "valueRow", "()V"⟩ prog_14_method_30_code 3 none :: xk_gd) rm_Model_valueRow (xk_Pc D kx_cl (kx_ty ca) (kw_m ad ca) ads xk_F sz [.ref (ad 0)] u) (xk_Qc D kx_cl (kw_m ad ca) ads (xo_v (.inl r)) u') (xk_A ads sz) := by
  unfold fm_Model_valueRow at h
  refine xk_con (by decide) htr hok (Nat.le_of_ble_eq_true rfl) (fun p e s m below meth c ls C hne hl hP => ?_)
  have hx := C.1.1
  have hb := C.1.2.1
  have hS : va_S (xk_A ads s.heap.size) s.heap s.heap [] := va_S.rf
  have hl : lv_has ls 3 [(0, .ref (ad 0))] := hl
  refine lv_aload_n hx hb dd_Model_valueRow_0 rfl (lv_at hl 0 rfl) ?_
  obtain ⟨a1, u2, hq, h⟩ := xp_seq h
  refine xk_goesL (xr_V (As := []) (rest := []) C hP hS (ct_Model_number htr hok hq) kq_Model_295 0 11 rfl rfl ⟨rfl, rfl, Nat.le_of_ble_eq_true rfl, Nat.le_of_ble_eq_true rfl⟩ ⟨Nat.le_of_ble_eq_true rfl, Nat.le_of_ble_eq_true rfl⟩ hl.1 rfl rfl (Nat.le_of_ble_eq_true rfl) dd_Model_valueRow_1) hS (fun H locs hP hS => ?_)
  clear hq
  refine lv_lstore_n (lv' := [(1, .long a1), (0, .ref (ad 0))]) hx hb dd_Model_valueRow_4 rfl hl (by decide) rfl (fun ls hl => ?_)
  exact wj_Model_valueRow_5 htr C hne h hP hS (lv_sub hl [1, 0] rfl)
abbrev rm_Model_typeForm : Room := { frames := 7, cells := 1, slots := 6, locals := 132 }
noncomputable def jb_Model_typeForm_85 (fu : Nat) (u : xk_St) : Option (Unit × xk_St) :=
  some ((()), u)
noncomputable def jb_Model_typeForm_52 (fu : Nat) : Nat → Int64 → Int64 → xk_St → Option (Unit × xk_St)
  | 0 => fun _ _ _ => none
  | n + 1 => fun b2 b4 u =>
    xs_let (jb_Model_typeForm_52 fu  n) fun k52 =>
    if b2 ≤ b4 then (jb_Model_typeForm_85 fu u) else (if (u.1 6) = (0 : Int32) then ((xs_seq (fm_Model_fieldType fu u) fun a5 u6 => xs_seq (fm_Model_flag u6) fun a7 u8 => xs_let (b4 + (1 : Int64)) fun a9 => k52 b2 a9 u8)) else (jb_Model_typeForm_85 fu u))
noncomputable def jb_Model_typeForm_48 (fu : Nat) (s0 : Int64) (u : xk_St) : Option (Unit × xk_St) :=
  jb_Model_typeForm_52 fu fu s0 (0 : Int64) u
noncomputable def jb_Model_typeForm_34 (fu : Nat) (b1 : Int32) (u : xk_St) : Option (Unit × xk_St) :=
  if b1 = (94 : Int32) then (jb_Model_typeForm_48 fu (1 : Int64) u) else ((xs_seq (fm_Model_number fu u) fun a3 u4 => jb_Model_typeForm_48 fu a3 u4))
noncomputable def fm_Model_typeForm (fu : Nat) (u : xk_St) : Option (Unit × xk_St) :=
  (xs_seq (fm_Model_one u) fun a1 u2 => if a1 = (96 : Int32) then ((xs_seq (fm_Model_valueRow fu u2) fun _ u11 => xs_seq (fm_Model_valueRow fu u11) fun _ u12 => some ((()), u12))) else (if a1 = (95 : Int32) then (jb_Model_typeForm_34 fu a1 u2) else (if a1 = (94 : Int32) then (jb_Model_typeForm_34 fu a1 u2) else ((xs_seq (fm_Model_fail (-1 : Int32) u2) fun _ u10 => some ((()), u10))))))
set_option maxHeartbeats 4000000 in
set_option maxRecDepth 100000 in
theorem wj_Model_typeForm_85 {p : Program} {l : Launch} {e : Env} {s : State} {m : MethodId} {args : Array Value} {below : List Frame} {meth : Method} {c : Code} {D : va_G} {ad : Nat → Nat} {ca : Nat → ClassId} {ads : List Nat} {fu : Nat} (htr : l.stackTraces = false) (C : xk_C D kx_cl (kx_ty ca) (kw_m ad ca) ads "ModuleHouseModel" prog_14_method_31_code 6 none p e s m args meth c) (hne : c.exceptionTable.isEmpty = true) {u' : xk_St} {r : Unit} {u : xk_St} {H : Heap} {locs : List Loc} {ls : Array Slot} (h : jb_Model_typeForm_85 fu   u = some (r, u')) (hP : va_P D kx_cl (kw_m ad ca u) H) (hS : va_S (xk_A ads s.heap.size) s.heap H locs) (hl : lv_has ls 6 []) : W p l e rm_Model_typeForm s m args below meth c H locs 0 0 (xk_MQ below (xk_Qc D kx_cl (kw_m ad ca) ads (xo_v (.inl r)) u') args s (xk_A ads s.heap.size)) (F0 m 85 ls []) := by
  have hx := C.1.1
  have hb := C.1.2.1
  have hok := C.2.2.1
  unfold jb_Model_typeForm_85 at h
  refine lv_goto (tgt := 93) hx hb dd_Model_typeForm_85 (by decide) ?_
  obtain ⟨rfl, rfl⟩ := xp_r h
  exact xr_vret C hP hS dd_Model_typeForm_93
set_option maxHeartbeats 4000000 in
set_option maxRecDepth 100000 in
theorem wj_Model_typeForm_52 {p : Program} {l : Launch} {e : Env} {s : State} {m : MethodId} {args : Array Value} {below : List Frame} {meth : Method} {c : Code} {D : va_G} {ad : Nat → Nat} {ca : Nat → ClassId} {ads : List Nat} {fu : Nat} (htr : l.stackTraces = false) (C : xk_C D kx_cl (kx_ty ca) (kw_m ad ca) ads "ModuleHouseModel" prog_14_method_31_code 6 none p e s m args meth c) (hne : c.exceptionTable.isEmpty = true) {u' : xk_St} {r : Unit} : ∀ {n : Nat} {b2 : Int64} {b4 : Int64} {u : xk_St} {H : Heap} {locs : List Loc} {ls : Array Slot} (h : jb_Model_typeForm_52 fu  n b2 b4 u = some (r, u')) (hP : va_P D kx_cl (kw_m ad ca u) H) (hS : va_S (xk_A ads s.heap.size) s.heap H locs) (hl : lv_has ls 6 [(0, .ref (ad 0)), (2, .long b2), (4, .long b4)]), W p l e rm_Model_typeForm s m args below meth c H locs 0 0 (xk_MQ below (xk_Qc D kx_cl (kw_m ad ca) ads (xo_v (.inl r)) u') args s (xk_A ads s.heap.size)) (F0 m 52 ls []) := by
  intro n
  have hx := C.1.1
  have hb := C.1.2.1
  have hok := C.2.2.1
  induction n with
  | zero =>
    intro _ _ u H locs ls h
    have h : none = some (r, u') := h
    cases h
  | succ n ih =>
    intro b2 b4 u H locs ls h hP hS hl
    unfold jb_Model_typeForm_52 at h
    obtain ⟨k52, ek52, h⟩ := xp_let h
    have hk52 : ∀ (c0 : Int64) (c1 : Int64) (u : xk_St) (H : Heap) (locs : List Loc) (ls : Array Slot), k52 c0 c1 u = some (r, u') → va_P D kx_cl (kw_m ad ca u) H → va_S (xk_A ads s.heap.size) s.heap H locs → lv_has ls 6 [(0, .ref (ad 0)), (2, .long c0), (4, .long c1)] → W p l e rm_Model_typeForm s m args below meth c H locs 0 0 (xk_MQ below (xk_Qc D kx_cl (kw_m ad ca) ads (xo_v (.inl r)) u') args s (xk_A ads s.heap.size)) (F0 m 52 ls []) := by
      intro c0 c1 u H locs ls h hP hS hl
      subst ek52
      exact ih h hP hS hl
    clear ih ek52
    refine lv_lload hx hb dd_Model_typeForm_52 (lv_at hl 2 rfl) ?_
    refine lv_lload_n hx hb dd_Model_typeForm_54 rfl (lv_at hl 1 rfl) ?_
    refine xr_lc_ge (tgt := 85) hx hb dd_Model_typeForm_55 dd_Model_typeForm_56 (by decide) (fun hc => ?_) (fun hc => ?_)
    · have h := xp_t hc h
      exact wj_Model_typeForm_85 htr C hne h hP hS (lv_sub hl [] rfl)
    · have h := xp_f hc h
      refine lv_aload_n hx hb dd_Model_typeForm_59 rfl (lv_at hl 0 rfl) ?_
      refine gf_m_Model_0_bad C hP dd_Model_typeForm_60 ?_
      refine lv_if_ne (tgt := 85) hx hb dd_Model_typeForm_63 (by decide) (fun hc => ?_) (fun hc => ?_)
      · have h := xp_f hc h
        exact wj_Model_typeForm_85 htr C hne h hP hS (lv_sub hl [] rfl)
      · have h := xp_t hc h
        refine lv_aload_n hx hb dd_Model_typeForm_66 rfl (lv_at hl 0 rfl) ?_
        obtain ⟨a5, u6, hq, h⟩ := xp_seq h
        refine xk_goesI (xr_V (As := []) (rest := []) C hP hS (ct_Model_fieldType htr hok hq) kq_Model_378 0 11 rfl rfl ⟨rfl, rfl, Nat.le_of_ble_eq_true rfl, Nat.le_of_ble_eq_true rfl⟩ ⟨Nat.le_of_ble_eq_true rfl, Nat.le_of_ble_eq_true rfl⟩ hl.1 rfl rfl (Nat.le_of_ble_eq_true rfl) dd_Model_typeForm_67) hS (fun H locs hP hS => ?_)
        clear hq
        refine lv_pop hx hb dd_Model_typeForm_70 rfl ?_
        refine lv_aload_n hx hb dd_Model_typeForm_71 rfl (lv_at hl 0 rfl) ?_
        obtain ⟨a7, u8, hq, h⟩ := xp_seq h
        refine xk_goesI (xr_V (As := []) (rest := []) C hP hS (ct_Model_flag htr hok hq) kq_Model_357 0 11 rfl rfl ⟨rfl, rfl, Nat.le_of_ble_eq_true rfl, Nat.le_of_ble_eq_true rfl⟩ ⟨Nat.le_of_ble_eq_true rfl, Nat.le_of_ble_eq_true rfl⟩ hl.1 rfl rfl (Nat.le_of_ble_eq_true rfl) dd_Model_typeForm_72) hS (fun H locs hP hS => ?_)
        clear hq
        refine lv_pop hx hb dd_Model_typeForm_75 rfl ?_
        refine lv_lload hx hb dd_Model_typeForm_76 (lv_at hl 2 rfl) ?_
        refine lv_lconst (v := 1) hx hb dd_Model_typeForm_78 (by decide) ?_
        refine lv_ladd hx hb dd_Model_typeForm_79 ?_
        obtain ⟨a9, ea9, h⟩ := xp_let h
        refine xr_naml ea9 ?_
        refine lv_lstore (lv' := [(4, .long a9), (0, .ref (ad 0)), (2, .long b2)]) hx hb dd_Model_typeForm_80 hl (by decide) rfl (fun ls hl => ?_)
        refine lv_goto (tgt := 52) hx hb dd_Model_typeForm_82 (by decide) ?_
        exact hk52 b2 a9 u8 _ _ _ h hP hS (lv_sub hl [1, 2, 0] rfl)
set_option maxHeartbeats 4000000 in
set_option maxRecDepth 100000 in
theorem wj_Model_typeForm_48 {p : Program} {l : Launch} {e : Env} {s : State} {m : MethodId} {args : Array Value} {below : List Frame} {meth : Method} {c : Code} {D : va_G} {ad : Nat → Nat} {ca : Nat → ClassId} {ads : List Nat} {fu : Nat} (htr : l.stackTraces = false) (C : xk_C D kx_cl (kx_ty ca) (kw_m ad ca) ads "ModuleHouseModel" prog_14_method_31_code 6 none p e s m args meth c) (hne : c.exceptionTable.isEmpty = true) {u' : xk_St} {r : Unit} {s0 : Int64} {u : xk_St} {H : Heap} {locs : List Loc} {ls : Array Slot} (h : jb_Model_typeForm_48 fu  s0 u = some (r, u')) (hP : va_P D kx_cl (kw_m ad ca u) H) (hS : va_S (xk_A ads s.heap.size) s.heap H locs) (hl : lv_has ls 6 [(0, .ref (ad 0))]) : W p l e rm_Model_typeForm s m args below meth c H locs 0 0 (xk_MQ below (xk_Qc D kx_cl (kw_m ad ca) ads (xo_v (.inl r)) u') args s (xk_A ads s.heap.size)) (F0 m 48 ls [.long s0]) := by
  have hx := C.1.1
  have hb := C.1.2.1
  have hok := C.2.2.1
  unfold jb_Model_typeForm_48 at h
  refine lv_lstore_n (lv' := [(2, .long s0), (0, .ref (ad 0))]) hx hb dd_Model_typeForm_48 rfl hl (by decide) rfl (fun ls hl => ?_)
  refine lv_lconst (v := 0) hx hb dd_Model_typeForm_49 (by decide) ?_
  refine lv_lstore (lv' := [(4, .long (0 : Int64)), (2, .long s0), (0, .ref (ad 0))]) hx hb dd_Model_typeForm_50 hl (by decide) rfl (fun ls hl => ?_)
  exact wj_Model_typeForm_52 htr C hne h hP hS (lv_sub hl [2, 1, 0] rfl)
set_option maxHeartbeats 4000000 in
set_option maxRecDepth 100000 in
theorem wj_Model_typeForm_34 {p : Program} {l : Launch} {e : Env} {s : State} {m : MethodId} {args : Array Value} {below : List Frame} {meth : Method} {c : Code} {D : va_G} {ad : Nat → Nat} {ca : Nat → ClassId} {ads : List Nat} {fu : Nat} (htr : l.stackTraces = false) (C : xk_C D kx_cl (kx_ty ca) (kw_m ad ca) ads "ModuleHouseModel" prog_14_method_31_code 6 none p e s m args meth c) (hne : c.exceptionTable.isEmpty = true) {u' : xk_St} {r : Unit} {b1 : Int32} {u : xk_St} {H : Heap} {locs : List Loc} {ls : Array Slot} (h : jb_Model_typeForm_34 fu  b1 u = some (r, u')) (hP : va_P D kx_cl (kw_m ad ca u) H) (hS : va_S (xk_A ads s.heap.size) s.heap H locs) (hl : lv_has ls 6 [(0, .ref (ad 0)), (1, .int b1)]) : W p l e rm_Model_typeForm s m args below meth c H locs 0 0 (xk_MQ below (xk_Qc D kx_cl (kw_m ad ca) ads (xo_v (.inl r)) u') args s (xk_A ads s.heap.size)) (F0 m 34 ls []) := by
  have hx := C.1.1
  have hb := C.1.2.1
  have hok := C.2.2.1
  unfold jb_Model_typeForm_34 at h
  refine lv_iload_n hx hb dd_Model_typeForm_34 rfl (lv_at hl 1 rfl) ?_
  refine lv_bipush (v := 94) hx hb dd_Model_typeForm_35 (by decide) ?_
  refine lv_icmp_ne (tgt := 44) hx hb dd_Model_typeForm_37 (by decide) (fun hc => ?_) (fun hc => ?_)
  · have h := xp_f hc h
    refine lv_aload_n hx hb dd_Model_typeForm_44 rfl (lv_at hl 0 rfl) ?_
    obtain ⟨a3, u4, hq, h⟩ := xp_seq h
    refine xk_goesL (xr_V (As := []) (rest := []) C hP hS (ct_Model_number htr hok hq) kq_Model_295 0 11 rfl rfl ⟨rfl, rfl, Nat.le_of_ble_eq_true rfl, Nat.le_of_ble_eq_true rfl⟩ ⟨Nat.le_of_ble_eq_true rfl, Nat.le_of_ble_eq_true rfl⟩ hl.1 rfl rfl (Nat.le_of_ble_eq_true rfl) dd_Model_typeForm_45) hS (fun H locs hP hS => ?_)
    clear hq
    exact wj_Model_typeForm_48 htr C hne h hP hS (lv_sub hl [0] rfl)
  · have h := xp_t hc h
    refine lv_lconst (v := 1) hx hb dd_Model_typeForm_40 (by decide) ?_
    refine lv_goto (tgt := 48) hx hb dd_Model_typeForm_41 (by decide) ?_
    exact wj_Model_typeForm_48 htr C hne h hP hS (lv_sub hl [0] rfl)
set_option maxHeartbeats 4000000 in
set_option maxRecDepth 100000 in
theorem ct_Model_typeForm {l : Launch} {D : va_G} {ad : Nat → Nat} {ca : Nat → ClassId} {ads : List Nat} (htr : l.stackTraces = false) (hok : xk_ok (kw_m ad ca) ads) {fu : Nat} {u u' : xk_St} {r : Unit} (h : fm_Model_typeForm fu u = some (r, u')) :
    ∀ sz, xk_Met l ⟨"ModuleHouseModel", "typeForm", "()V"⟩ (Cond.code ⟨"ModuleHouseModel", "typeForm", "()V"⟩ prog_14_method_31_code 6 none :: xk_gd) rm_Model_typeForm (xk_Pc D kx_cl (kx_ty ca) (kw_m ad ca) ads xk_F sz [.ref (ad 0)] u) (xk_Qc D kx_cl (kw_m ad ca) ads (xo_v (.inl r)) u') (xk_A ads sz) := by
  unfold fm_Model_typeForm at h
  refine xk_con (by decide) htr hok (Nat.le_of_ble_eq_true rfl) (fun p e s m below meth c ls C hne hl hP => ?_)
  have hx := C.1.1
  have hb := C.1.2.1
  have hS : va_S (xk_A ads s.heap.size) s.heap s.heap [] := va_S.rf
  have hl : lv_has ls 6 [(0, .ref (ad 0))] := hl
  refine lv_aload_n hx hb dd_Model_typeForm_0 rfl (lv_at hl 0 rfl) ?_
  obtain ⟨a1, u2, hq, h⟩ := xp_seq h
  refine xk_goesI (xr_V (As := []) (rest := []) C hP hS (ct_Model_one htr hok hq) kq_Model_178 0 11 rfl rfl ⟨rfl, rfl, Nat.le_of_ble_eq_true rfl, Nat.le_of_ble_eq_true rfl⟩ ⟨Nat.le_of_ble_eq_true rfl, Nat.le_of_ble_eq_true rfl⟩ hl.1 rfl rfl (Nat.le_of_ble_eq_true rfl) dd_Model_typeForm_1) hS (fun H locs hP hS => ?_)
  clear hq
  refine lv_istore_n (lv' := [(1, .int a1), (0, .ref (ad 0))]) hx hb dd_Model_typeForm_4 rfl hl (by decide) rfl (fun ls hl => ?_)
  refine lv_iload_n hx hb dd_Model_typeForm_5 rfl (lv_at hl 0 rfl) ?_
  refine lv_bipush (v := 96) hx hb dd_Model_typeForm_6 (by decide) ?_
  refine lv_icmp_ne (tgt := 22) hx hb dd_Model_typeForm_8 (by decide) (fun hc => ?_) (fun hc => ?_)
  · have h := xp_f hc h
    refine lv_iload_n hx hb dd_Model_typeForm_22 rfl (lv_at hl 0 rfl) ?_
    refine lv_bipush (v := 95) hx hb dd_Model_typeForm_23 (by decide) ?_
    refine lv_icmp_eq (tgt := 34) hx hb dd_Model_typeForm_25 (by decide) (fun hc => ?_) (fun hc => ?_)
    · have h := xp_t hc h
      exact wj_Model_typeForm_34 htr C hne h hP hS (lv_sub hl [1, 0] rfl)
    · have h := xp_f hc h
      refine lv_iload_n hx hb dd_Model_typeForm_28 rfl (lv_at hl 0 rfl) ?_
      refine lv_bipush (v := 94) hx hb dd_Model_typeForm_29 (by decide) ?_
      refine lv_icmp_ne (tgt := 88) hx hb dd_Model_typeForm_31 (by decide) (fun hc => ?_) (fun hc => ?_)
      · have h := xp_f hc h
        refine lv_aload_n hx hb dd_Model_typeForm_88 rfl (lv_at hl 1 rfl) ?_
        refine lv_iconst (v := (-1)) hx hb dd_Model_typeForm_89 (by decide) ?_
        obtain ⟨rx, u10, hq, h⟩ := xp_seq h
        refine xk_goesV (xr_V (As := [.int (-1 : Int32)]) (rest := []) C hP hS (ct_Model_fail htr hok hq) kq_Model_174 0 11 rfl rfl ⟨rfl, rfl, Nat.le_of_ble_eq_true rfl, Nat.le_of_ble_eq_true rfl⟩ ⟨Nat.le_of_ble_eq_true rfl, Nat.le_of_ble_eq_true rfl⟩ hl.1 rfl rfl (Nat.le_of_ble_eq_true rfl) dd_Model_typeForm_90) hS (fun H locs hP hS => ?_)
        clear hq
        obtain ⟨rfl, rfl⟩ := xp_r h
        exact xr_vret C hP hS dd_Model_typeForm_93
      · have h := xp_t hc h
        exact wj_Model_typeForm_34 htr C hne h hP hS (lv_sub hl [1, 0] rfl)
  · have h := xp_t hc h
    refine lv_aload_n hx hb dd_Model_typeForm_11 rfl (lv_at hl 1 rfl) ?_
    obtain ⟨rx, u11, hq, h⟩ := xp_seq h
    refine xk_goesV (xr_V (As := []) (rest := []) C hP hS (ct_Model_valueRow htr hok hq) kq_Model_375 0 11 rfl rfl ⟨rfl, rfl, Nat.le_of_ble_eq_true rfl, Nat.le_of_ble_eq_true rfl⟩ ⟨Nat.le_of_ble_eq_true rfl, Nat.le_of_ble_eq_true rfl⟩ hl.1 rfl rfl (Nat.le_of_ble_eq_true rfl) dd_Model_typeForm_12) hS (fun H locs hP hS => ?_)
    clear hq
    refine lv_aload_n hx hb dd_Model_typeForm_15 rfl (lv_at hl 1 rfl) ?_
    obtain ⟨rx, u12, hq, h⟩ := xp_seq h
    refine xk_goesV (xr_V (As := []) (rest := []) C hP hS (ct_Model_valueRow htr hok hq) kq_Model_375 0 11 rfl rfl ⟨rfl, rfl, Nat.le_of_ble_eq_true rfl, Nat.le_of_ble_eq_true rfl⟩ ⟨Nat.le_of_ble_eq_true rfl, Nat.le_of_ble_eq_true rfl⟩ hl.1 rfl rfl (Nat.le_of_ble_eq_true rfl) dd_Model_typeForm_16) hS (fun H locs hP hS => ?_)
    clear hq
    refine lv_goto (tgt := 93) hx hb dd_Model_typeForm_19 (by decide) ?_
    obtain ⟨rfl, rfl⟩ := xp_r h
    exact xr_vret C hP hS dd_Model_typeForm_93
