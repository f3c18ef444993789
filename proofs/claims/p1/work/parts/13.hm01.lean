abbrev rm_House_feed : Room := { frames := 6, cells := 1, slots := 6, locals := 100 }
noncomputable def jb_House_feed_42 (fu : Nat) : Nat → Int32 → Int64 → Int32 → xk_St → Option ((Int32 ⊕ Nat) × xk_St)
  | 0 => fun _ _ _ _ => none
  | n + 1 => fun b1 b2 b4 u =>
    xs_let (jb_House_feed_42 fu  n) fun k42 =>
    if b1 ≤ b4 then ((xs_let (xs_I u 0 ((u.1 0) + b1)) fun u1 => some (.inl (u1.1 0), u1))) else ((if ((u.1 0) + b4) < 0 ∨ 8192 ≤ ((u.1 0) + b4).toNatClampNeg then none else xs_let (xs_A u 0 ((u.1 0) + b4).toNatClampNeg (vp_nar .byte ((((b2.toUInt64 >>> (((8 : Int32) * b4).toInt64.toUInt64 &&& Int64.toUInt64 63)).toInt64).toInt32).toInt8.toInt32))) fun u2 => xs_let (b4 + (1 : Int32)) fun a3 => k42 b1 b2 a3 u2))
noncomputable def fm_House_feed (fu : Nat) (x0 : Int32) (x1 : Int64) (u : xk_St) : Option ((Int32 ⊕ Nat) × xk_St) :=
  if x0 < (1 : Int32) then (some (.inr 0, u)) else (if x0 ≤ (8 : Int32) then (if ((u.1 0) + x0) ≤ (8192 : Int32) then (jb_House_feed_42 fu fu x0 x1 (0 : Int32) u) else (some (.inr 2, u))) else (some (.inr 0, u)))
set_option maxHeartbeats 4000000 in
set_option maxRecDepth 100000 in
theorem wj_House_feed_42 {p : Program} {l : Launch} {e : Env} {s : State} {m : MethodId} {args : Array Value} {below : List Frame} {meth : Method} {c : Code} {D : va_G} {ad : Nat → Nat} {ca : Nat → ClassId} {ads : List Nat} {fu : Nat} (htr : l.stackTraces = false) (C : xk_C D kx_cl (kx_ty ca) (kw_h ad ca) ads "ModuleHouse" prog_1_method_2_code 5 (some .int) p e s m args meth c) (hne : c.exceptionTable.isEmpty = true) {u' : xk_St} {r : (Int32 ⊕ Nat)} : ∀ {n : Nat} {b1 : Int32} {b2 : Int64} {b4 : Int32} {u : xk_St} {H : Heap} {locs : List Loc} {ls : Array Slot} (h : jb_House_feed_42 fu  n b1 b2 b4 u = some (r, u')) (hP : va_P D kx_cl (kw_h ad ca u) H) (hS : va_S (xk_A ads s.heap.size) s.heap H locs) (hl : lv_has ls 5 [(0, .ref (ad 0)), (1, .int b1), (2, .long b2), (4, .int b4)]), W p l e rm_House_feed s m args below meth c H locs 0 0 (xk_MQ below (xk_Qc D kx_cl (kw_h ad ca) ads (xo_i r) u') args s (xk_A ads s.heap.size)) (F0 m 42 ls []) := by
  intro n
  have hx := C.1.1
  have hb := C.1.2.1
  have hok := C.2.2.1
  induction n with
  | zero =>
    intro _ _ _ u H locs ls h
    have h : none = some (r, u') := h
    cases h
  | succ n ih =>
    intro b1 b2 b4 u H locs ls h hP hS hl
    unfold jb_House_feed_42 at h
    obtain ⟨k42, ek42, h⟩ := xp_let h
    have hk42 : ∀ (c0 : Int32) (c1 : Int64) (c2 : Int32) (u : xk_St) (H : Heap) (locs : List Loc) (ls : Array Slot), k42 c0 c1 c2 u = some (r, u') → va_P D kx_cl (kw_h ad ca u) H → va_S (xk_A ads s.heap.size) s.heap H locs → lv_has ls 5 [(0, .ref (ad 0)), (1, .int c0), (2, .long c1), (4, .int c2)] → W p l e rm_House_feed s m args below meth c H locs 0 0 (xk_MQ below (xk_Qc D kx_cl (kw_h ad ca) ads (xo_i r) u') args s (xk_A ads s.heap.size)) (F0 m 42 ls []) := by
      intro c0 c1 c2 u H locs ls h hP hS hl
      subst ek42
      exact ih h hP hS hl
    clear ih ek42
    refine lv_iload hx hb dd_House_feed_42 (lv_at hl 3 rfl) ?_
    refine lv_iload_n hx hb dd_House_feed_44 rfl (lv_at hl 1 rfl) ?_
    refine lv_icmp_ge (tgt := 75) hx hb dd_House_feed_45 (by decide) (fun hc => ?_) (fun hc => ?_)
    · have h := xp_t hc h
      refine lv_aload_n hx hb dd_House_feed_75 rfl (lv_at hl 0 rfl) ?_
      refine lv_dup hx hb dd_House_feed_76 rfl ?_
      refine gf_h_House_0_tapeLength C hP dd_House_feed_77 ?_
      refine lv_iload_n hx hb dd_House_feed_80 rfl (lv_at hl 1 rfl) ?_
      refine lv_iadd hx hb dd_House_feed_81 ?_
      refine pf_h_House_0_tapeLength C hP hS dd_House_feed_82 (fun H locs hP hS => ?_)
      obtain ⟨u1, eu1, h⟩ := xp_let h
      rw [← eu1] at hP
      refine lv_aload_n hx hb dd_House_feed_85 rfl (lv_at hl 0 rfl) ?_
      refine gf_h_House_0_tapeLength C hP dd_House_feed_86 ?_
      obtain ⟨rfl, rfl⟩ := xp_r h
      exact xr_iret C hP hS dd_House_feed_89
    · have h := xp_f hc h
      refine lv_aload_n hx hb dd_House_feed_48 rfl (lv_at hl 0 rfl) ?_
      refine gf_h_House_0_tape C hP dd_House_feed_49 ?_
      refine lv_aload_n hx hb dd_House_feed_52 rfl (lv_at hl 0 rfl) ?_
      refine gf_h_House_0_tapeLength C hP dd_House_feed_53 ?_
      refine lv_iload hx hb dd_House_feed_56 (lv_at hl 3 rfl) ?_
      refine lv_iadd hx hb dd_House_feed_58 ?_
      refine lv_lload_n hx hb dd_House_feed_59 rfl (lv_at hl 2 rfl) ?_
      refine lv_bipush (v := 8) hx hb dd_House_feed_60 (by decide) ?_
      refine lv_iload hx hb dd_House_feed_62 (lv_at hl 3 rfl) ?_
      refine lv_imul hx hb dd_House_feed_64 ?_
      refine lv_lushr hx hb dd_House_feed_65 rfl ?_
      refine lv_l2i hx hb dd_House_feed_66 rfl ?_
      refine lv_i2b hx hb dd_House_feed_67 rfl ?_
      obtain ⟨hi, h⟩ := xp_g h
      refine as_h_1 C hP hS hi dd_House_feed_68 (fun H locs hP hS => ?_)
      obtain ⟨u2, eu2, h⟩ := xp_let h
      rw [← eu2] at hP
      obtain ⟨a3, ea3, h⟩ := xp_let h
      refine lv_iinc (v := a3) (lv' := [(4, .int a3), (0, .ref (ad 0)), (1, .int b1), (2, .long b2)]) hx hb dd_House_feed_69 hl (k := 3) rfl (by rw [ea3]; first | rfl | decide) (by decide) rfl (fun ls hl => ?_)
      refine lv_goto (tgt := 42) hx hb dd_House_feed_72 (by decide) ?_
      exact hk42 b1 b2 a3 u2 _ _ _ h hP hS (lv_sub hl [1, 2, 3, 0] rfl)
set_option maxHeartbeats 4000000 in
set_option maxRecDepth 100000 in
theorem ct_House_feed {l : Launch} {D : va_G} {ad : Nat → Nat} {ca : Nat → ClassId} {ads : List Nat} (htr : l.stackTraces = false) (hok : xk_ok (kw_h ad ca) ads) {fu : Nat} {x0 : Int32} {x1 : Int64} {u u' : xk_St} {r : (Int32 ⊕ Nat)} (h : fm_House_feed fu x0 x1 u = some (r, u')) :
    ∀ sz, xk_Met l ⟨"ModuleHouse", "feed", "(IJ)I"⟩ (Cond.code ⟨"ModuleHouse", "feed", "(IJ)I"⟩ prog_1_method_2_code 5 (some .int) :: xk_gd) rm_House_feed (xk_Pc D kx_cl (kx_ty ca) (kw_h ad ca) ads xk_F sz [.ref (ad 0), .int x0, .long x1] u) (xk_Qc D kx_cl (kw_h ad ca) ads (xo_i r) u') (xk_A ads sz) := by
  unfold fm_House_feed at h
  refine xk_con (by decide) htr hok (Nat.le_of_ble_eq_true rfl) (fun p e s m below meth c ls C hne hl hP => ?_)
  have hx := C.1.1
  have hb := C.1.2.1
  have hS : va_S (xk_A ads s.heap.size) s.heap s.heap [] := va_S.rf
  have hl : lv_has ls 5 [(0, .ref (ad 0)), (1, .int x0), (2, .long x1)] := hl
  refine lv_iload_n hx hb dd_House_feed_0 rfl (lv_at hl 1 rfl) ?_
  refine lv_iconst (v := 1) hx hb dd_House_feed_1 (by decide) ?_
  refine lv_icmp_lt (tgt := 11) hx hb dd_House_feed_2 (by decide) (fun hc => ?_) (fun hc => ?_)
  · have h := xp_t hc h
    obtain ⟨rfl, rfl⟩ := xp_r h
    exact xr_throw C hP hS hne kz_House_0 hl.1 ⟨Nat.le_of_ble_eq_true rfl, Nat.le_of_ble_eq_true rfl, Nat.le_of_ble_eq_true rfl, Nat.le_of_ble_eq_true rfl⟩ dd_House_feed_11 dd_House_feed_14 dd_House_feed_15 dd_House_feed_18
  · have h := xp_f hc h
    refine lv_iload_n hx hb dd_House_feed_5 rfl (lv_at hl 1 rfl) ?_
    refine lv_bipush (v := 8) hx hb dd_House_feed_6 (by decide) ?_
    refine lv_icmp_le (tgt := 19) hx hb dd_House_feed_8 (by decide) (fun hc => ?_) (fun hc => ?_)
    · have h := xp_t hc h
      refine lv_aload_n hx hb dd_House_feed_19 rfl (lv_at hl 0 rfl) ?_
      refine gf_h_House_0_tapeLength C hP dd_House_feed_20 ?_
      refine lv_iload_n hx hb dd_House_feed_23 rfl (lv_at hl 1 rfl) ?_
      refine lv_iadd hx hb dd_House_feed_24 ?_
      refine lv_sipush (v := 8192) hx hb dd_House_feed_25 (by decide) ?_
      refine lv_icmp_le (tgt := 39) hx hb dd_House_feed_28 (by decide) (fun hc => ?_) (fun hc => ?_)
      · have h := xp_t hc h
        refine lv_iconst (v := 0) hx hb dd_House_feed_39 (by decide) ?_
        refine lv_istore (lv' := [(4, .int (0 : Int32)), (0, .ref (ad 0)), (1, .int x0), (2, .long x1)]) hx hb dd_House_feed_40 hl (by decide) rfl (fun ls hl => ?_)
        exact wj_House_feed_42 htr C hne h hP hS (lv_sub hl [1, 2, 3, 0] rfl)
      · have h := xp_f hc h
        obtain ⟨rfl, rfl⟩ := xp_r h
        exact xr_throw C hP hS hne kz_House_2 hl.1 ⟨Nat.le_of_ble_eq_true rfl, Nat.le_of_ble_eq_true rfl, Nat.le_of_ble_eq_true rfl, Nat.le_of_ble_eq_true rfl⟩ dd_House_feed_31 dd_House_feed_34 dd_House_feed_35 dd_House_feed_38
    · have h := xp_f hc h
      obtain ⟨rfl, rfl⟩ := xp_r h
      exact xr_throw C hP hS hne kz_House_0 hl.1 ⟨Nat.le_of_ble_eq_true rfl, Nat.le_of_ble_eq_true rfl, Nat.le_of_ble_eq_true rfl, Nat.le_of_ble_eq_true rfl⟩ dd_House_feed_11 dd_House_feed_14 dd_House_feed_15 dd_House_feed_18
abbrev rm_House_give : Room := { frames := 6, cells := 1, slots := 6, locals := 100 }
noncomputable def fm_House_give (x0 : Int64) (u : xk_St) : Option ((Int32 ⊕ Nat) × xk_St) :=
  if (u.1 1) = (16 : Int32) then (some (.inr 2, u)) else ((if (u.1 1) < 0 ∨ 16 ≤ (u.1 1).toNatClampNeg then none else xs_let (xs_B u 0 (u.1 1).toNatClampNeg x0) fun u1 => xs_let (xs_I u1 1 ((u1.1 1) + (1 : Int32))) fun u2 => some (.inl (u2.1 1), u2)))
set_option maxHeartbeats 4000000 in
set_option maxRecDepth 100000 in
theorem ct_House_give {l : Launch} {D : va_G} {ad : Nat → Nat} {ca : Nat → ClassId} {ads : List Nat} (htr : l.stackTraces = false) (hok : xk_ok (kw_h ad ca) ads) {x0 : Int64} {u u' : xk_St} {r : (Int32 ⊕ Nat)} (h : fm_House_give x0 u = some (r, u')) :
    ∀ sz, xk_Met l ⟨"ModuleHouse", "give", "(J)I"⟩ (Cond.code ⟨"ModuleHouse", "give", "(J)I"⟩ prog_1_method_4_code 3 (some .int) :: xk_gd) rm_House_give (xk_Pc D kx_cl (kx_ty ca) (kw_h ad ca) ads xk_F sz [.ref (ad 0), .long x0] u) (xk_Qc D kx_cl (kw_h ad ca) ads (xo_i r) u') (xk_A ads sz) := by
  unfold fm_House_give at h
  refine xk_con (by decide) htr hok (Nat.le_of_ble_eq_true rfl) (fun p e s m below meth c ls C hne hl hP => ?_)
  have hx := C.1.1
  have hb := C.1.2.1
  have hS : va_S (xk_A ads s.heap.size) s.heap s.heap [] := va_S.rf
  have hl : lv_has ls 3 [(0, .ref (ad 0)), (1, .long x0)] := hl
  refine lv_aload_n hx hb dd_House_give_0 rfl (lv_at hl 0 rfl) ?_
  refine gf_h_House_0_argumentCount C hP dd_House_give_1 ?_
  refine lv_bipush (v := 16) hx hb dd_House_give_4 (by decide) ?_
  refine lv_icmp_ne (tgt := 17) hx hb dd_House_give_6 (by decide) (fun hc => ?_) (fun hc => ?_)
  · have h := xp_f hc h
    refine lv_aload_n hx hb dd_House_give_17 rfl (lv_at hl 0 rfl) ?_
    refine gf_h_House_0_arguments C hP dd_House_give_18 ?_
    refine lv_aload_n hx hb dd_House_give_21 rfl (lv_at hl 0 rfl) ?_
    refine gf_h_House_0_argumentCount C hP dd_House_give_22 ?_
    refine lv_lload_n hx hb dd_House_give_25 rfl (lv_at hl 1 rfl) ?_
    obtain ⟨hi, h⟩ := xp_g h
    refine as_h_2 C hP hS hi dd_House_give_26 (fun H locs hP hS => ?_)
    obtain ⟨u1, eu1, h⟩ := xp_let h
    rw [← eu1] at hP
    refine lv_aload_n hx hb dd_House_give_27 rfl (lv_at hl 0 rfl) ?_
    refine lv_dup hx hb dd_House_give_28 rfl ?_
    refine gf_h_House_0_argumentCount C hP dd_House_give_29 ?_
    refine lv_iconst (v := 1) hx hb dd_House_give_32 (by decide) ?_
    refine lv_iadd hx hb dd_House_give_33 ?_
    refine pf_h_House_0_argumentCount C hP hS dd_House_give_34 (fun H locs hP hS => ?_)
    obtain ⟨u2, eu2, h⟩ := xp_let h
    rw [← eu2] at hP
    refine lv_aload_n hx hb dd_House_give_37 rfl (lv_at hl 0 rfl) ?_
    refine gf_h_House_0_argumentCount C hP dd_House_give_38 ?_
    obtain ⟨rfl, rfl⟩ := xp_r h
    exact xr_iret C hP hS dd_House_give_41
  · have h := xp_t hc h
    obtain ⟨rfl, rfl⟩ := xp_r h
    exact xr_throw C hP hS hne kz_House_2 hl.1 ⟨Nat.le_of_ble_eq_true rfl, Nat.le_of_ble_eq_true rfl, Nat.le_of_ble_eq_true rfl, Nat.le_of_ble_eq_true rfl⟩ dd_House_give_9 dd_House_give_12 dd_House_give_13 dd_House_give_16
abbrev rm_House_sameName : Room := { frames := 1, cells := 1, slots := 6, locals := 0 }
noncomputable def jb_House_sameName_2 (fu : Nat) : Nat → Int32 → Int32 → Int32 → xk_St → Option (Int32 × xk_St)
  | 0 => fun _ _ _ _ => none
  | n + 1 => fun b1 b2 b3 u =>
    xs_let (jb_House_sameName_2 fu  n) fun k2 =>
    if b2 ≤ b3 then (some ((1 : Int32), u)) else ((if (b1 + b3) < 0 ∨ 8192 ≤ (b1 + b3).toNatClampNeg then none else if b3 < 0 ∨ 8192 ≤ b3.toNatClampNeg then none else if (u.2.2.1 1 (b1 + b3).toNatClampNeg) = (u.2.2.1 0 b3.toNatClampNeg) then ((xs_let (b3 + (1 : Int32)) fun a1 => k2 b1 b2 a1 u)) else (some ((0 : Int32), u))))
noncomputable def fm_House_sameName (fu : Nat) (x0 : Int32) (x1 : Int32) (u : xk_St) : Option (Int32 × xk_St) :=
  jb_House_sameName_2 fu fu x0 x1 (0 : Int32) u
set_option maxHeartbeats 4000000 in
set_option maxRecDepth 100000 in
theorem wj_House_sameName_2 {p : Program} {l : Launch} {e : Env} {s : State} {m : MethodId} {args : Array Value} {below : List Frame} {meth : Method} {c : Code} {D : va_G} {ad : Nat → Nat} {ca : Nat → ClassId} {ads : List Nat} {fu : Nat} (htr : l.stackTraces = false) (C : xk_C D kx_cl (kx_ty ca) (kw_h ad ca) ads "ModuleHouse" prog_1_method_7_code 4 (some .boolean) p e s m args meth c) (hne : c.exceptionTable.isEmpty = true) {u' : xk_St} {r : Int32} : ∀ {n : Nat} {b1 : Int32} {b2 : Int32} {b3 : Int32} {u : xk_St} {H : Heap} {locs : List Loc} {ls : Array Slot} (h : jb_House_sameName_2 fu  n b1 b2 b3 u = some (r, u')) (hP : va_P D kx_cl (kw_h ad ca u) H) (hS : va_S (xk_A ads s.heap.size) s.heap H locs) (hl : lv_has ls 4 [(0, .ref (ad 0)), (1, .int b1), (2, .int b2), (3, .int b3)]), W p l e rm_House_sameName s m args below meth c H locs 0 0 (xk_MQ below (xk_Qc D kx_cl (kw_h ad ca) ads (xo_i (.inl r)) u') args s (xk_A ads s.heap.size)) (F0 m 2 ls []) := by
  intro n
  have hx := C.1.1
  have hb := C.1.2.1
  have hok := C.2.2.1
  induction n with
  | zero =>
    intro _ _ _ u H locs ls h
    have h : none = some (r, u') := h
    cases h
  | succ n ih =>
    intro b1 b2 b3 u H locs ls h hP hS hl
    unfold jb_House_sameName_2 at h
    obtain ⟨k2, ek2, h⟩ := xp_let h
    have hk2 : ∀ (c0 : Int32) (c1 : Int32) (c2 : Int32) (u : xk_St) (H : Heap) (locs : List Loc) (ls : Array Slot), k2 c0 c1 c2 u = some (r, u') → va_P D kx_cl (kw_h ad ca u) H → va_S (xk_A ads s.heap.size) s.heap H locs → lv_has ls 4 [(0, .ref (ad 0)), (1, .int c0), (2, .int c1), (3, .int c2)] → W p l e rm_House_sameName s m args below meth c H locs 0 0 (xk_MQ below (xk_Qc D kx_cl (kw_h ad ca) ads (xo_i (.inl r)) u') args s (xk_A ads s.heap.size)) (F0 m 2 ls []) := by
      intro c0 c1 c2 u H locs ls h hP hS hl
      subst ek2
      exact ih h hP hS hl
    clear ih ek2
    refine lv_iload_n hx hb dd_House_sameName_2 rfl (lv_at hl 3 rfl) ?_
    refine lv_iload_n hx hb dd_House_sameName_3 rfl (lv_at hl 2 rfl) ?_
    refine lv_icmp_ge (tgt := 35) hx hb dd_House_sameName_4 (by decide) (fun hc => ?_) (fun hc => ?_)
    · have h := xp_t hc h
      refine lv_iconst (v := 1) hx hb dd_House_sameName_35 (by decide) ?_
      obtain ⟨rfl, rfl⟩ := xp_r h
      exact xr_zret C hP hS (by decide) dd_House_sameName_36
    · have h := xp_f hc h
      refine lv_aload_n hx hb dd_House_sameName_7 rfl (lv_at hl 0 rfl) ?_
      refine gf_h_House_0_module C hP dd_House_sameName_8 ?_
      refine gf_h_House_4_bytes C hP dd_House_sameName_11 ?_
      refine lv_iload_n hx hb dd_House_sameName_14 rfl (lv_at hl 1 rfl) ?_
      refine lv_iload_n hx hb dd_House_sameName_15 rfl (lv_at hl 3 rfl) ?_
      refine lv_iadd hx hb dd_House_sameName_16 ?_
      obtain ⟨hi, h⟩ := xp_g h
      refine al_h_5 C hP hi dd_House_sameName_17 ?_
      refine lv_aload_n hx hb dd_House_sameName_18 rfl (lv_at hl 0 rfl) ?_
      refine gf_h_House_0_tape C hP dd_House_sameName_19 ?_
      refine lv_iload_n hx hb dd_House_sameName_22 rfl (lv_at hl 3 rfl) ?_
      obtain ⟨hi, h⟩ := xp_g h
      refine al_h_1 C hP hi dd_House_sameName_23 ?_
      refine lv_icmp_eq (tgt := 29) hx hb dd_House_sameName_24 (by decide) (fun hc => ?_) (fun hc => ?_)
      · have h := xp_t hc h
        obtain ⟨a1, ea1, h⟩ := xp_let h
        refine lv_iinc (v := a1) (lv' := [(3, .int a1), (0, .ref (ad 0)), (1, .int b1), (2, .int b2)]) hx hb dd_House_sameName_29 hl (k := 3) rfl (by rw [ea1]; first | rfl | decide) (by decide) rfl (fun ls hl => ?_)
        refine lv_goto (tgt := 2) hx hb dd_House_sameName_32 (by decide) ?_
        exact hk2 b1 b2 a1 u _ _ _ h hP hS (lv_sub hl [1, 2, 3, 0] rfl)
      · have h := xp_f hc h
        refine lv_iconst (v := 0) hx hb dd_House_sameName_27 (by decide) ?_
        obtain ⟨rfl, rfl⟩ := xp_r h
        exact xr_zret C hP hS (by decide) dd_House_sameName_28
set_option maxHeartbeats 4000000 in
set_option maxRecDepth 100000 in
theorem ct_House_sameName {l : Launch} {D : va_G} {ad : Nat → Nat} {ca : Nat → ClassId} {ads : List Nat} (htr : l.stackTraces = false) (hok : xk_ok (kw_h ad ca) ads) {fu : Nat} {x0 : Int32} {x1 : Int32} {u u' : xk_St} {r : Int32} (h : fm_House_sameName fu x0 x1 u = some (r, u')) :
    ∀ sz, xk_Met l ⟨"ModuleHouse", "sameName", "(II)Z"⟩ (Cond.code ⟨"ModuleHouse", "sameName", "(II)Z"⟩ prog_1_method_7_code 4 (some .boolean) :: xk_gd) rm_House_sameName (xk_Pc D kx_cl (kx_ty ca) (kw_h ad ca) ads xk_F sz [.ref (ad 0), .int x0, .int x1] u) (xk_Qc D kx_cl (kw_h ad ca) ads (xo_i (.inl r)) u') (xk_A ads sz) := by
  unfold fm_House_sameName at h
  refine xk_con (by decide) htr hok (Nat.le_of_ble_eq_true rfl) (fun p e s m below meth c ls C hne hl hP => ?_)
  have hx := C.1.1
  have hb := C.1.2.1
  have hS : va_S (xk_A ads s.heap.size) s.heap s.heap [] := va_S.rf
  have hl : lv_has ls 4 [(0, .ref (ad 0)), (1, .int x0), (2, .int x1)] := hl
  refine lv_iconst (v := 0) hx hb dd_House_sameName_0 (by decide) ?_
  refine lv_istore_n (lv' := [(3, .int (0 : Int32)), (0, .ref (ad 0)), (1, .int x0), (2, .int x1)]) hx hb dd_House_sameName_1 rfl hl (by decide) rfl (fun ls hl => ?_)
  exact wj_House_sameName_2 htr C hne h hP hS (lv_sub hl [1, 2, 3, 0] rfl)
abbrev rm_House_functionNamed : Room := { frames := 2, cells := 1, slots := 6, locals := 23 }
noncomputable def jb_House_functionNamed_63 (fu : Nat) (k10 : Int32 → Int32 → xk_St → Option (Int32 × xk_St)) (b1 : Int32) (b3 : Int32) (u : xk_St) : Option (Int32 × xk_St) :=
  (xs_let (b3 + (1 : Int32)) fun a1 => k10 b1 a1 u)
noncomputable def jb_House_functionNamed_10 (fu : Nat) : Nat → Int32 → Int32 → xk_St → Option (Int32 × xk_St)
  | 0 => fun _ _ _ => none
  | n + 1 => fun b1 b3 u =>
    xs_let (jb_House_functionNamed_10 fu  n) fun k10 =>
    if (u.1 14) ≤ b3 then (some ((-1 : Int32), u)) else ((if b3 < 0 ∨ 65 ≤ b3.toNatClampNeg then none else if (u.2.2.1 26 b3.toNatClampNeg) = b1 then ((if b3 < 0 ∨ 65 ≤ b3.toNatClampNeg then none else xs_seq (fm_House_sameName fu (u.2.2.1 25 b3.toNatClampNeg) b1 u) fun a2 u3 => if a2 = (0 : Int32) then (jb_House_functionNamed_63 fu k10 b1 b3 u3) else ((if b3 < 0 ∨ 65 ≤ b3.toNatClampNeg then none else if (u3.2.2.1 24 b3.toNatClampNeg) = (0 : Int32) then ((if b3 < 0 ∨ 65 ≤ b3.toNatClampNeg then none else some (((u3.2.2.2 7 b3.toNatClampNeg).toInt32), u3))) else (some ((-1 : Int32), u3)))))) else (jb_House_functionNamed_63 fu k10 b1 b3 u)))
noncomputable def fm_House_functionNamed (fu : Nat) (x0 : Int32) (u : xk_St) : Option (Int32 × xk_St) :=
  jb_House_functionNamed_10 fu fu x0 (0 : Int32) u
set_option maxHeartbeats 4000000 in
set_option maxRecDepth 100000 in
theorem wj_House_functionNamed_63 {p : Program} {l : Launch} {e : Env} {s : State} {m : MethodId} {args : Array Value} {below : List Frame} {meth : Method} {c : Code} {D : va_G} {ad : Nat → Nat} {ca : Nat → ClassId} {ads : List Nat} {fu : Nat} (htr : l.stackTraces = false) (C : xk_C D kx_cl (kx_ty ca) (kw_h ad ca) ads "ModuleHouse" prog_1_method_6_code 4 (some .int) p e s m args meth c) (hne : c.exceptionTable.isEmpty = true) {u' : xk_St} {r : Int32} {k10 : Int32 → Int32 → xk_St → Option (Int32 × xk_St)} (hk10 : ∀ (c0 : Int32) (c1 : Int32) (u : xk_St) (H : Heap) (locs : List Loc) (ls : Array Slot), k10 c0 c1 u = some (r, u') → va_P D kx_cl (kw_h ad ca u) H → va_S (xk_A ads s.heap.size) s.heap H locs → lv_has ls 4 [(0, .ref (ad 0)), (1, .int c0), (2, .ref (ad 39)), (3, .int c1)] → W p l e rm_House_functionNamed s m args below meth c H locs 0 0 (xk_MQ below (xk_Qc D kx_cl (kw_h ad ca) ads (xo_i (.inl r)) u') args s (xk_A ads s.heap.size)) (F0 m 10 ls [])) {b1 : Int32} {b3 : Int32} {u : xk_St} {H : Heap} {locs : List Loc} {ls : Array Slot} (h : jb_House_functionNamed_63 fu k10 b1 b3 u = some (r, u')) (hP : va_P D kx_cl (kw_h ad ca u) H) (hS : va_S (xk_A ads s.heap.size) s.heap H locs) (hl : lv_has ls 4 [(0, .ref (ad 0)), (1, .int b1), (2, .ref (ad 39)), (3, .int b3)]) : W p l e rm_House_functionNamed s m args below meth c H locs 0 0 (xk_MQ below (xk_Qc D kx_cl (kw_h ad ca) ads (xo_i (.inl r)) u') args s (xk_A ads s.heap.size)) (F0 m 63 ls []) := by
  have hx := C.1.1
  have hb := C.1.2.1
  have hok := C.2.2.1
  unfold jb_House_functionNamed_63 at h
  obtain ⟨a1, ea1, h⟩ := xp_let h
  refine lv_iinc (v := a1) (lv' := [(3, .int a1), (0, .ref (ad 0)), (1, .int b1), (2, .ref (ad 39))]) hx hb dd_House_functionNamed_63 hl (k := 3) rfl (by rw [ea1]; first | rfl | decide) (by decide) rfl (fun ls hl => ?_)
  refine lv_goto (tgt := 10) hx hb dd_House_functionNamed_66 (by decide) ?_
  exact hk10 b1 a1 u _ _ _ h hP hS (lv_sub hl [1, 2, 3, 0] rfl)
set_option maxHeartbeats 4000000 in
set_option maxRecDepth 100000 in
theorem wj_House_functionNamed_10 {p : Program} {l : Launch} {e : Env} {s : State} {m : MethodId} {args : Array Value} {below : List Frame} {meth : Method} {c : Code} {D : va_G} {ad : Nat → Nat} {ca : Nat → ClassId} {ads : List Nat} {fu : Nat} (htr : l.stackTraces = false) (C : xk_C D kx_cl (kx_ty ca) (kw_h ad ca) ads "ModuleHouse" prog_1_method_6_code 4 (some .int) p e s m args meth c) (hne : c.exceptionTable.isEmpty = true) {u' : xk_St} {r : Int32} : ∀ {n : Nat} {b1 : Int32} {b3 : Int32} {u : xk_St} {H : Heap} {locs : List Loc} {ls : Array Slot} (h : jb_House_functionNamed_10 fu  n b1 b3 u = some (r, u')) (hP : va_P D kx_cl (kw_h ad ca u) H) (hS : va_S (xk_A ads s.heap.size) s.heap H locs) (hl : lv_has ls 4 [(0, .ref (ad 0)), (1, .int b1), (2, .ref (ad 39)), (3, .int b3)]), W p l e rm_House_functionNamed s m args below meth c H locs 0 0 (xk_MQ below (xk_Qc D kx_cl (kw_h ad ca) ads (xo_i (.inl r)) u') args s (xk_A ads s.heap.size)) (F0 m 10 ls []) := by
  intro n
  have hx := C.1.1
  have hb := C.1.2.1
  have hok := C.2.2.1
  induction n with
  | zero =>
    intro _ _ u H locs ls h
    have h : none = some (r, u') := h
    cases h
  | succ n ih =>
    intro b1 b3 u H locs ls h hP hS hl
    unfold jb_House_functionNamed_10 at h
    obtain ⟨k10, ek10, h⟩ := xp_let h
    have hk10 : ∀ (c0 : Int32) (c1 : Int32) (u : xk_St) (H : Heap) (locs : List Loc) (ls : Array Slot), k10 c0 c1 u = some (r, u') → va_P D kx_cl (kw_h ad ca u) H → va_S (xk_A ads s.heap.size) s.heap H locs → lv_has ls 4 [(0, .ref (ad 0)), (1, .int c0), (2, .ref (ad 39)), (3, .int c1)] → W p l e rm_House_functionNamed s m args below meth c H locs 0 0 (xk_MQ below (xk_Qc D kx_cl (kw_h ad ca) ads (xo_i (.inl r)) u') args s (xk_A ads s.heap.size)) (F0 m 10 ls []) := by
      intro c0 c1 u H locs ls h hP hS hl
      subst ek10
      exact ih h hP hS hl
    clear ih ek10
    refine lv_iload_n hx hb dd_House_functionNamed_10 rfl (lv_at hl 3 rfl) ?_
    refine lv_aload_n hx hb dd_House_functionNamed_11 rfl (lv_at hl 2 rfl) ?_
    refine gf_h_House_39_count C hP dd_House_functionNamed_12 ?_
    refine lv_icmp_ge (tgt := 69) hx hb dd_House_functionNamed_15 (by decide) (fun hc => ?_) (fun hc => ?_)
    · have h := xp_t hc h
      refine lv_iconst (v := (-1)) hx hb dd_House_functionNamed_69 (by decide) ?_
      obtain ⟨rfl, rfl⟩ := xp_r h
      exact xr_iret C hP hS dd_House_functionNamed_70
    · have h := xp_f hc h
      refine lv_aload_n hx hb dd_House_functionNamed_18 rfl (lv_at hl 2 rfl) ?_
      refine gf_h_House_39_second C hP dd_House_functionNamed_19 ?_
      refine lv_iload_n hx hb dd_House_functionNamed_22 rfl (lv_at hl 3 rfl) ?_
      obtain ⟨hi, h⟩ := xp_g h
      refine al_h_42 C hP hi dd_House_functionNamed_23 ?_
      refine lv_iload_n hx hb dd_House_functionNamed_24 rfl (lv_at hl 1 rfl) ?_
      refine lv_icmp_ne (tgt := 63) hx hb dd_House_functionNamed_25 (by decide) (fun hc => ?_) (fun hc => ?_)
      · have h := xp_f hc h
        exact wj_House_functionNamed_63 htr C hne hk10 h hP hS (lv_sub hl [0, 1, 2, 3] rfl)
      · have h := xp_t hc h
        refine lv_aload_n hx hb dd_House_functionNamed_28 rfl (lv_at hl 0 rfl) ?_
        refine lv_aload_n hx hb dd_House_functionNamed_29 rfl (lv_at hl 2 rfl) ?_
        refine gf_h_House_39_first C hP dd_House_functionNamed_30 ?_
        refine lv_iload_n hx hb dd_House_functionNamed_33 rfl (lv_at hl 3 rfl) ?_
        obtain ⟨hi, h⟩ := xp_g h
        refine al_h_41 C hP hi dd_House_functionNamed_34 ?_
        refine lv_iload_n hx hb dd_House_functionNamed_35 rfl (lv_at hl 1 rfl) ?_
        obtain ⟨a2, u3, hq, h⟩ := xp_seq h
        refine xk_goesI (xr_V (As := [.int (u.2.2.1 25 b3.toNatClampNeg), .int b1]) (rest := []) C hP hS (ct_House_sameName htr hok hq) kq_House_150 0 0 rfl rfl ⟨rfl, rfl, Nat.le_of_ble_eq_true rfl, Nat.le_of_ble_eq_true rfl⟩ ⟨Nat.le_of_ble_eq_true rfl, Nat.le_of_ble_eq_true rfl⟩ hl.1 rfl rfl (Nat.le_of_ble_eq_true rfl) dd_House_functionNamed_36) hS (fun H locs hP hS => ?_)
        clear hq
        refine lv_if_eq (tgt := 63) hx hb dd_House_functionNamed_39 (by decide) (fun hc => ?_) (fun hc => ?_)
        · have h := xp_t hc h
          exact wj_House_functionNamed_63 htr C hne hk10 h hP hS (lv_sub hl [0, 1, 2, 3] rfl)
        · have h := xp_f hc h
          refine lv_aload_n hx hb dd_House_functionNamed_42 rfl (lv_at hl 2 rfl) ?_
          refine gf_h_House_39_kind C hP dd_House_functionNamed_43 ?_
          refine lv_iload_n hx hb dd_House_functionNamed_46 rfl (lv_at hl 3 rfl) ?_
          obtain ⟨hi, h⟩ := xp_g h
          refine al_h_40 C hP hi dd_House_functionNamed_47 ?_
          refine lv_if_ne (tgt := 61) hx hb dd_House_functionNamed_48 (by decide) (fun hc => ?_) (fun hc => ?_)
          · have h := xp_f hc h
            refine lv_iconst (v := (-1)) hx hb dd_House_functionNamed_61 (by decide) ?_
            obtain ⟨rfl, rfl⟩ := xp_r h
            exact xr_iret C hP hS dd_House_functionNamed_62
          · have h := xp_t hc h
            refine lv_aload_n hx hb dd_House_functionNamed_51 rfl (lv_at hl 2 rfl) ?_
            refine gf_h_House_39_number C hP dd_House_functionNamed_52 ?_
            refine lv_iload_n hx hb dd_House_functionNamed_55 rfl (lv_at hl 3 rfl) ?_
            obtain ⟨hi, h⟩ := xp_g h
            refine al_h_43 C hP hi dd_House_functionNamed_56 ?_
            refine lv_l2i hx hb dd_House_functionNamed_57 rfl ?_
            refine lv_goto (tgt := 62) hx hb dd_House_functionNamed_58 (by decide) ?_
            obtain ⟨rfl, rfl⟩ := xp_r h
            exact xr_iret C hP hS dd_House_functionNamed_62
set_option maxHeartbeats 4000000 in
set_option maxRecDepth 100000 in
theorem ct_House_functionNamed {l : Launch} {D : va_G} {ad : Nat → Nat} {ca : Nat → ClassId} {ads : List Nat} (htr : l.stackTraces = false) (hok : xk_ok (kw_h ad ca) ads) {fu : Nat} {x0 : Int32} {u u' : xk_St} {r : Int32} (h : fm_House_functionNamed fu x0 u = some (r, u')) :
    ∀ sz, xk_Met l ⟨"ModuleHouse", "functionNamed", "(I)I"⟩ (Cond.code ⟨"ModuleHouse", "functionNamed", "(I)I"⟩ prog_1_method_6_code 4 (some .int) :: xk_gd) rm_House_functionNamed (xk_Pc D kx_cl (kx_ty ca) (kw_h ad ca) ads xk_F sz [.ref (ad 0), .int x0] u) (xk_Qc D kx_cl (kw_h ad ca) ads (xo_i (.inl r)) u') (xk_A ads sz) := by
  unfold fm_House_functionNamed at h
  refine xk_con (by decide) htr hok (Nat.le_of_ble_eq_true rfl) (fun p e s m below meth c ls C hne hl hP => ?_)
  have hx := C.1.1
  have hb := C.1.2.1
  have hS : va_S (xk_A ads s.heap.size) s.heap s.heap [] := va_S.rf
  have hl : lv_has ls 4 [(0, .ref (ad 0)), (1, .int x0)] := hl
  refine lv_aload_n hx hb dd_House_functionNamed_0 rfl (lv_at hl 0 rfl) ?_
  refine gf_h_House_0_module C hP dd_House_functionNamed_1 ?_
  refine gf_h_House_4_exports C hP dd_House_functionNamed_4 ?_
  refine lv_astore_n (lv' := [(2, .ref (ad 39)), (0, .ref (ad 0)), (1, .int x0)]) hx hb dd_House_functionNamed_7 rfl hl (by decide) rfl (fun ls hl => ?_)
  refine lv_iconst (v := 0) hx hb dd_House_functionNamed_8 (by decide) ?_
  refine lv_istore_n (lv' := [(3, .int (0 : Int32)), (2, .ref (ad 39)), (0, .ref (ad 0)), (1, .int x0)]) hx hb dd_House_functionNamed_9 rfl hl (by decide) rfl (fun ls hl => ?_)
  exact wj_House_functionNamed_10 htr C hne h hP hS (lv_sub hl [2, 3, 1, 0] rfl)
abbrev rm_Types_member : Room := { frames := 1, cells := 1, slots := 6, locals := 0 }
noncomputable def fm_Types_member (x0 : Int32) (x1 : Int32) (u : xk_St) : Option (Int32 × xk_St) :=
  (if (((34 : Int32) * x0) + x1) < 0 ∨ 2210 ≤ (((34 : Int32) * x0) + x1).toNatClampNeg then none else some ((u.2.2.1 6 (((34 : Int32) * x0) + x1).toNatClampNeg), u))
set_option maxHeartbeats 4000000 in
set_option maxRecDepth 100000 in
theorem ct_Types_member {l : Launch} {D : va_G} {ad : Nat → Nat} {ca : Nat → ClassId} {ads : List Nat} (htr : l.stackTraces = false) (hok : xk_ok (kw_h ad ca) ads) {x0 : Int32} {x1 : Int32} {u u' : xk_St} {r : Int32} (h : fm_Types_member x0 x1 u = some (r, u')) :
    ∀ sz, xk_Met l ⟨"ModuleHouse$Types", "member", "(II)I"⟩ (Cond.code ⟨"ModuleHouse$Types", "member", "(II)I"⟩ prog_11_method_10_code 3 (some .int) :: xk_gd) rm_Types_member (xk_Pc D kx_cl (kx_ty ca) (kw_h ad ca) ads xk_F sz [.ref (ad 6), .int x0, .int x1] u) (xk_Qc D kx_cl (kw_h ad ca) ads (xo_i (.inl r)) u') (xk_A ads sz) := by
  unfold fm_Types_member at h
  refine xk_con (by decide) htr hok (Nat.le_of_ble_eq_true rfl) (fun p e s m below meth c ls C hne hl hP => ?_)
  have hx := C.1.1
  have hb := C.1.2.1
  have hS : va_S (xk_A ads s.heap.size) s.heap s.heap [] := va_S.rf
  have hl : lv_has ls 3 [(0, .ref (ad 6)), (1, .int x0), (2, .int x1)] := hl
  refine lv_aload_n hx hb dd_Types_member_0 rfl (lv_at hl 0 rfl) ?_
  refine gf_h_Types_6_part C hP dd_Types_member_1 ?_
  refine lv_bipush (v := 34) hx hb dd_Types_member_4 (by decide) ?_
  refine lv_iload_n hx hb dd_Types_member_6 rfl (lv_at hl 1 rfl) ?_
  refine lv_imul hx hb dd_Types_member_7 ?_
  refine lv_iload_n hx hb dd_Types_member_8 rfl (lv_at hl 2 rfl) ?_
  refine lv_iadd hx hb dd_Types_member_9 ?_
  obtain ⟨hi, h⟩ := xp_g h
  refine al_h_11 C hP hi dd_Types_member_10 ?_
  obtain ⟨rfl, rfl⟩ := xp_r h
  exact xr_iret C hP hS dd_Types_member_11
abbrev rm_Types_isReference : Room := { frames := 1, cells := 1, slots := 6, locals := 0 }
noncomputable def fm_Types_isReference (x0 : Int32) (u : xk_St) : Option (Int32 × xk_St) :=
  if x0 < (16 : Int32) then (some ((0 : Int32), u)) else (some ((1 : Int32), u))
set_option maxHeartbeats 4000000 in
set_option maxRecDepth 100000 in
theorem ct_Types_isReference {l : Launch} {D : va_G} {ad : Nat → Nat} {ca : Nat → ClassId} {ads : List Nat} (htr : l.stackTraces = false) (hok : xk_ok (kw_h ad ca) ads) {x0 : Int32} {u u' : xk_St} {r : Int32} (h : fm_Types_isReference x0 u = some (r, u')) :
    ∀ sz, xk_Met l ⟨"ModuleHouse$Types", "isReference", "(I)Z"⟩ (Cond.code ⟨"ModuleHouse$Types", "isReference", "(I)Z"⟩ prog_11_method_3_code 1 (some .boolean) :: xk_gd) rm_Types_isReference (xk_Pc D kx_cl (kx_ty ca) (kw_h ad ca) ads xk_F sz [.int x0] u) (xk_Qc D kx_cl (kw_h ad ca) ads (xo_i (.inl r)) u') (xk_A ads sz) := by
  unfold fm_Types_isReference at h
  refine xk_con (by decide) htr hok (Nat.le_of_ble_eq_true rfl) (fun p e s m below meth c ls C hne hl hP => ?_)
  have hx := C.1.1
  have hb := C.1.2.1
  have hS : va_S (xk_A ads s.heap.size) s.heap s.heap [] := va_S.rf
  have hl : lv_has ls 1 [(0, .int x0)] := hl
  refine lv_iload_n hx hb dd_Types_isReference_0 rfl (lv_at hl 0 rfl) ?_
  refine lv_bipush (v := 16) hx hb dd_Types_isReference_1 (by decide) ?_
  refine lv_icmp_lt (tgt := 10) hx hb dd_Types_isReference_3 (by decide) (fun hc => ?_) (fun hc => ?_)
  · have h := xp_t hc h
    refine lv_iconst (v := 0) hx hb dd_Types_isReference_10 (by decide) ?_
    obtain ⟨rfl, rfl⟩ := xp_r h
    exact xr_zret C hP hS (by decide) dd_Types_isReference_11
  · have h := xp_f hc h
    refine lv_iconst (v := 1) hx hb dd_Types_isReference_6 (by decide) ?_
    refine lv_goto (tgt := 11) hx hb dd_Types_isReference_7 (by decide) ?_
    obtain ⟨rfl, rfl⟩ := xp_r h
    exact xr_zret C hP hS (by decide) dd_Types_isReference_11
abbrev rm_House_takes : Room := { frames := 2, cells := 1, slots := 6, locals := 22 }
noncomputable def jb_House_takes_20 (fu : Nat) : Nat → Int32 → Int32 → Int32 → xk_St → Option (Int32 × xk_St)
  | 0 => fun _ _ _ _ => none
  | n + 1 => fun b1 b2 b3 u =>
    xs_let (jb_House_takes_20 fu  n) fun k20 =>
    if b2 ≤ b3 then (some ((1 : Int32), u)) else ((xs_seq (fm_Types_member b1 b3 u) fun a1 u2 => xs_seq (fm_Types_isReference a1 u2) fun a3 u4 => if a3 = (0 : Int32) then ((xs_let (b3 + (1 : Int32)) fun a5 => k20 b1 b2 a5 u4)) else (some ((0 : Int32), u4))))
noncomputable def fm_House_takes (fu : Nat) (x0 : Int32) (x1 : Int32) (u : xk_St) : Option (Int32 × xk_St) :=
  (if x0 < 0 ∨ 65 ≤ x0.toNatClampNeg then none else if (u.2.2.1 3 x0.toNatClampNeg) = x1 then (jb_House_takes_20 fu fu x0 x1 (0 : Int32) u) else (some ((0 : Int32), u)))
set_option maxHeartbeats 4000000 in
set_option maxRecDepth 100000 in
theorem wj_House_takes_20 {p : Program} {l : Launch} {e : Env} {s : State} {m : MethodId} {args : Array Value} {below : List Frame} {meth : Method} {c : Code} {D : va_G} {ad : Nat → Nat} {ca : Nat → ClassId} {ads : List Nat} {fu : Nat} (htr : l.stackTraces = false) (C : xk_C D kx_cl (kx_ty ca) (kw_h ad ca) ads "ModuleHouse" prog_1_method_8_code 4 (some .boolean) p e s m args meth c) (hne : c.exceptionTable.isEmpty = true) {u' : xk_St} {r : Int32} : ∀ {n : Nat} {b1 : Int32} {b2 : Int32} {b3 : Int32} {u : xk_St} {H : Heap} {locs : List Loc} {ls : Array Slot} (h : jb_House_takes_20 fu  n b1 b2 b3 u = some (r, u')) (hP : va_P D kx_cl (kw_h ad ca u) H) (hS : va_S (xk_A ads s.heap.size) s.heap H locs) (hl : lv_has ls 4 [(0, .ref (ad 0)), (1, .int b1), (2, .int b2), (3, .int b3)]), W p l e rm_House_takes s m args below meth c H locs 0 0 (xk_MQ below (xk_Qc D kx_cl (kw_h ad ca) ads (xo_i (.inl r)) u') args s (xk_A ads s.heap.size)) (F0 m 20 ls []) := by
  intro n
  have hx := C.1.1
  have hb := C.1.2.1
  have hok := C.2.2.1
  induction n with
  | zero =>
    intro _ _ _ u H locs ls h
    have h : none = some (r, u') := h
    cases h
  | succ n ih =>
    intro b1 b2 b3 u H locs ls h hP hS hl
    unfold jb_House_takes_20 at h
    obtain ⟨k20, ek20, h⟩ := xp_let h
    have hk20 : ∀ (c0 : Int32) (c1 : Int32) (c2 : Int32) (u : xk_St) (H : Heap) (locs : List Loc) (ls : Array Slot), k20 c0 c1 c2 u = some (r, u') → va_P D kx_cl (kw_h ad ca u) H → va_S (xk_A ads s.heap.size) s.heap H locs → lv_has ls 4 [(0, .ref (ad 0)), (1, .int c0), (2, .int c1), (3, .int c2)] → W p l e rm_House_takes s m args below meth c H locs 0 0 (xk_MQ below (xk_Qc D kx_cl (kw_h ad ca) ads (xo_i (.inl r)) u') args s (xk_A ads s.heap.size)) (F0 m 20 ls []) := by
      intro c0 c1 c2 u H locs ls h hP hS hl
      subst ek20
      exact ih h hP hS hl
    clear ih ek20
    refine lv_iload_n hx hb dd_House_takes_20 rfl (lv_at hl 3 rfl) ?_
    refine lv_iload_n hx hb dd_House_takes_21 rfl (lv_at hl 2 rfl) ?_
    refine lv_icmp_ge (tgt := 51) hx hb dd_House_takes_22 (by decide) (fun hc => ?_) (fun hc => ?_)
    · have h := xp_t hc h
      refine lv_iconst (v := 1) hx hb dd_House_takes_51 (by decide) ?_
      obtain ⟨rfl, rfl⟩ := xp_r h
      exact xr_zret C hP hS (by decide) dd_House_takes_52
    · have h := xp_f hc h
      refine lv_aload_n hx hb dd_House_takes_25 rfl (lv_at hl 0 rfl) ?_
      refine gf_h_House_0_module C hP dd_House_takes_26 ?_
      refine gf_h_House_4_types C hP dd_House_takes_29 ?_
      refine lv_iload_n hx hb dd_House_takes_32 rfl (lv_at hl 1 rfl) ?_
      refine lv_iload_n hx hb dd_House_takes_33 rfl (lv_at hl 3 rfl) ?_
      obtain ⟨a1, u2, hq, h⟩ := xp_seq h
      refine xk_goesI (xr_V (As := [.int b1, .int b3]) (rest := []) C hP hS (ct_Types_member htr hok hq) kq_House_168 6 9 rfl rfl ⟨rfl, rfl, Nat.le_of_ble_eq_true rfl, Nat.le_of_ble_eq_true rfl⟩ ⟨Nat.le_of_ble_eq_true rfl, Nat.le_of_ble_eq_true rfl⟩ hl.1 rfl rfl (Nat.le_of_ble_eq_true rfl) dd_House_takes_34) hS (fun H locs hP hS => ?_)
      clear hq
      obtain ⟨a3, u4, hq, h⟩ := xp_seq h
      refine xk_goesI (xr_S (As := [.int a1]) (rest := []) C hP hS (ct_Types_isReference htr hok hq) kq_House_171 ⟨rfl, rfl, Nat.le_of_ble_eq_true rfl, Nat.le_of_ble_eq_true rfl⟩ ⟨Nat.le_of_ble_eq_true rfl, Nat.le_of_ble_eq_true rfl⟩ hl.1 rfl rfl (Nat.le_of_ble_eq_true rfl) dd_House_takes_37) hS (fun H locs hP hS => ?_)
      clear hq
      refine lv_if_eq (tgt := 45) hx hb dd_House_takes_40 (by decide) (fun hc => ?_) (fun hc => ?_)
      · have h := xp_t hc h
        obtain ⟨a5, ea5, h⟩ := xp_let h
        refine lv_iinc (v := a5) (lv' := [(3, .int a5), (0, .ref (ad 0)), (1, .int b1), (2, .int b2)]) hx hb dd_House_takes_45 hl (k := 3) rfl (by rw [ea5]; first | rfl | decide) (by decide) rfl (fun ls hl => ?_)
        refine lv_goto (tgt := 20) hx hb dd_House_takes_48 (by decide) ?_
        exact hk20 b1 b2 a5 u4 _ _ _ h hP hS (lv_sub hl [1, 2, 3, 0] rfl)
      · have h := xp_f hc h
        refine lv_iconst (v := 0) hx hb dd_House_takes_43 (by decide) ?_
        obtain ⟨rfl, rfl⟩ := xp_r h
        exact xr_zret C hP hS (by decide) dd_House_takes_44
set_option maxHeartbeats 4000000 in
set_option maxRecDepth 100000 in
theorem ct_House_takes {l : Launch} {D : va_G} {ad : Nat → Nat} {ca : Nat → ClassId} {ads : List Nat} (htr : l.stackTraces = false) (hok : xk_ok (kw_h ad ca) ads) {fu : Nat} {x0 : Int32} {x1 : Int32} {u u' : xk_St} {r : Int32} (h : fm_House_takes fu x0 x1 u = some (r, u')) :
    ∀ sz, xk_Met l ⟨"ModuleHouse", "takes", "(II)Z"⟩ (Cond.code ⟨"ModuleHouse", "takes", "(II)Z"⟩ prog_1_method_8_code 4 (some .boolean) :: xk_gd) rm_House_takes (xk_Pc D kx_cl (kx_ty ca) (kw_h ad ca) ads xk_F sz [.ref (ad 0), .int x0, .int x1] u) (xk_Qc D kx_cl (kw_h ad ca) ads (xo_i (.inl r)) u') (xk_A ads sz) := by
  unfold fm_House_takes at h
  refine xk_con (by decide) htr hok (Nat.le_of_ble_eq_true rfl) (fun p e s m below meth c ls C hne hl hP => ?_)
  have hx := C.1.1
  have hb := C.1.2.1
  have hS : va_S (xk_A ads s.heap.size) s.heap s.heap [] := va_S.rf
  have hl : lv_has ls 4 [(0, .ref (ad 0)), (1, .int x0), (2, .int x1)] := hl
  refine lv_aload_n hx hb dd_House_takes_0 rfl (lv_at hl 0 rfl) ?_
  refine gf_h_House_0_module C hP dd_House_takes_1 ?_
  refine gf_h_House_4_types C hP dd_House_takes_4 ?_
  refine gf_h_House_6_members C hP dd_House_takes_7 ?_
  refine lv_iload_n hx hb dd_House_takes_10 rfl (lv_at hl 1 rfl) ?_
  obtain ⟨hi, h⟩ := xp_g h
  refine al_h_8 C hP hi dd_House_takes_11 ?_
  refine lv_iload_n hx hb dd_House_takes_12 rfl (lv_at hl 2 rfl) ?_
  refine lv_icmp_eq (tgt := 18) hx hb dd_House_takes_13 (by decide) (fun hc => ?_) (fun hc => ?_)
  · have h := xp_t hc h
    refine lv_iconst (v := 0) hx hb dd_House_takes_18 (by decide) ?_
    refine lv_istore_n (lv' := [(3, .int (0 : Int32)), (0, .ref (ad 0)), (1, .int x0), (2, .int x1)]) hx hb dd_House_takes_19 rfl hl (by decide) rfl (fun ls hl => ?_)
    exact wj_House_takes_20 htr C hne h hP hS (lv_sub hl [1, 2, 3, 0] rfl)
  · have h := xp_f hc h
    refine lv_iconst (v := 0) hx hb dd_House_takes_16 (by decide) ?_
    obtain ⟨rfl, rfl⟩ := xp_r h
    exact xr_zret C hP hS (by decide) dd_House_takes_17
abbrev rm_Values_push__h61 : Room := { frames := 1, cells := 1, slots := 6, locals := 0 }
noncomputable def fm_Values_push__h61 (x0 : Int64) (u : xk_St) : Option (Unit × xk_St) :=
  (if (u.1 28) < 0 ∨ 18000 ≤ (u.1 28).toNatClampNeg then none else xs_let (xs_B u 10 (u.1 28).toNatClampNeg x0) fun u1 => if (u1.1 28) < 0 ∨ 18000 ≤ (u1.1 28).toNatClampNeg then none else xs_let (xs_A u1 37 (u1.1 28).toNatClampNeg (vp_nar .boolean (0 : Int32))) fun u2 => xs_let (xs_I u2 28 ((u2.1 28) + (1 : Int32))) fun u3 => some ((()), u3))
set_option maxHeartbeats 4000000 in
set_option maxRecDepth 100000 in
theorem ct_Values_push__h61 {l : Launch} {D : va_G} {ad : Nat → Nat} {ca : Nat → ClassId} {ads : List Nat} (htr : l.stackTraces = false) (hok : xk_ok (kw_h ad ca) ads) {x0 : Int64} {u u' : xk_St} {r : Unit} (h : fm_Values_push__h61 x0 u = some (r, u')) :
    ∀ sz, xk_Met l ⟨"ModuleHouse$Values", "push", "(J)V"⟩ (Cond.code ⟨"ModuleHouse$Values", "push", "(J)V"⟩ prog_12_method_2_code 3 none :: xk_gd) rm_Values_push__h61 (xk_Pc D kx_cl (kx_ty ca) (kw_h ad ca) ads xk_F sz [.ref (ad 61), .long x0] u) (xk_Qc D kx_cl (kw_h ad ca) ads (xo_v (.inl r)) u') (xk_A ads sz) := by
  unfold fm_Values_push__h61 at h
  refine xk_con (by decide) htr hok (Nat.le_of_ble_eq_true rfl) (fun p e s m below meth c ls C hne hl hP => ?_)
  have hx := C.1.1
  have hb := C.1.2.1
  have hS : va_S (xk_A ads s.heap.size) s.heap s.heap [] := va_S.rf
  have hl : lv_has ls 3 [(0, .ref (ad 61)), (1, .long x0)] := hl
  refine lv_aload_n hx hb dd_Values_push_0 rfl (lv_at hl 0 rfl) ?_
  refine gf_h_Values_61_value C hP dd_Values_push_1 ?_
  refine lv_aload_n hx hb dd_Values_push_4 rfl (lv_at hl 0 rfl) ?_
  refine gf_h_Values_61_top C hP dd_Values_push_5 ?_
  refine lv_lload_n hx hb dd_Values_push_8 rfl (lv_at hl 1 rfl) ?_
  obtain ⟨hi, h⟩ := xp_g h
  refine as_h_62 C hP hS hi dd_Values_push_9 (fun H locs hP hS => ?_)
  obtain ⟨u1, eu1, h⟩ := xp_let h
  rw [← eu1] at hP
  refine lv_aload_n hx hb dd_Values_push_10 rfl (lv_at hl 0 rfl) ?_
  refine gf_h_Values_61_refers C hP dd_Values_push_11 ?_
  refine lv_aload_n hx hb dd_Values_push_14 rfl (lv_at hl 0 rfl) ?_
  refine gf_h_Values_61_top C hP dd_Values_push_15 ?_
  refine lv_iconst (v := 0) hx hb dd_Values_push_18 (by decide) ?_
  obtain ⟨hi, h⟩ := xp_g h
  refine as_h_63 C hP hS hi dd_Values_push_19 (fun H locs hP hS => ?_)
  obtain ⟨u2, eu2, h⟩ := xp_let h
  rw [← eu2] at hP
  refine lv_aload_n hx hb dd_Values_push_20 rfl (lv_at hl 0 rfl) ?_
  refine lv_dup hx hb dd_Values_push_21 rfl ?_
  refine gf_h_Values_61_top C hP dd_Values_push_22 ?_
  refine lv_iconst (v := 1) hx hb dd_Values_push_25 (by decide) ?_
  refine lv_iadd hx hb dd_Values_push_26 ?_
  refine pf_h_Values_61_top C hP hS dd_Values_push_27 (fun H locs hP hS => ?_)
  obtain ⟨u3, eu3, h⟩ := xp_let h
  rw [← eu3] at hP
  obtain ⟨rfl, rfl⟩ := xp_r h
  exact xr_vret C hP hS dd_Values_push_30
abbrev rm_House_layArguments : Room := { frames := 2, cells := 1, slots := 6, locals := 22 }
noncomputable def jb_House_layArguments_59 (fu : Nat) (k2 : Int32 → Int32 → Int32 → xk_St → Option (Unit × xk_St)) (b1 : Int32) (b2 : Int32) (b3 : Int32) (s0 : Int64) (u : xk_St) : Option (Unit × xk_St) :=
  (xs_seq (fm_Values_push__h61 s0 u) fun _ u3 => xs_let (b3 + (1 : Int32)) fun a4 => k2 b1 b2 a4 u3)
noncomputable def jb_House_layArguments_28 (fu : Nat) (k2 : Int32 → Int32 → Int32 → xk_St → Option (Unit × xk_St)) (b1 : Int32) (b2 : Int32) (b3 : Int32) (s0 : Int32) (u : xk_St) : Option (Unit × xk_St) :=
  if s0 = (0 : Int32) then ((if b3 < 0 ∨ 16 ≤ b3.toNatClampNeg then none else jb_House_layArguments_59 fu k2 b1 b2 b3 (u.2.2.2 0 b3.toNatClampNeg) u)) else ((if b3 < 0 ∨ 16 ≤ b3.toNatClampNeg then none else jb_House_layArguments_59 fu k2 b1 b2 b3 (((u.2.2.2 0 b3.toNatClampNeg).toInt32).toInt64) u))
noncomputable def jb_House_layArguments_2 (fu : Nat) : Nat → Int32 → Int32 → Int32 → xk_St → Option (Unit × xk_St)
  | 0 => fun _ _ _ _ => none
  | n + 1 => fun b1 b2 b3 u =>
    xs_let (jb_House_layArguments_2 fu  n) fun k2 =>
    if b2 ≤ b3 then (some ((()), u)) else ((xs_seq (fm_Types_member b1 b3 u) fun a1 u2 => if a1 = (1 : Int32) then (jb_House_layArguments_28 fu k2 b1 b2 b3 (1 : Int32) u2) else (jb_House_layArguments_28 fu k2 b1 b2 b3 (0 : Int32) u2)))
noncomputable def fm_House_layArguments (fu : Nat) (x0 : Int32) (x1 : Int32) (u : xk_St) : Option (Unit × xk_St) :=
  jb_House_layArguments_2 fu fu x0 x1 (0 : Int32) u
set_option maxHeartbeats 4000000 in
set_option maxRecDepth 100000 in
theorem wj_House_layArguments_59 {p : Program} {l : Launch} {e : Env} {s : State} {m : MethodId} {args : Array Value} {below : List Frame} {meth : Method} {c : Code} {D : va_G} {ad : Nat → Nat} {ca : Nat → ClassId} {ads : List Nat} {fu : Nat} (htr : l.stackTraces = false) (C : xk_C D kx_cl (kx_ty ca) (kw_h ad ca) ads "ModuleHouse" prog_1_method_9_code 5 none p e s m args meth c) (hne : c.exceptionTable.isEmpty = true) {u' : xk_St} {r : Unit} {k2 : Int32 → Int32 → Int32 → xk_St → Option (Unit × xk_St)} (hk2 : ∀ (c0 : Int32) (c1 : Int32) (c2 : Int32) (u : xk_St) (H : Heap) (locs : List Loc) (ls : Array Slot), k2 c0 c1 c2 u = some (r, u') → va_P D kx_cl (kw_h ad ca u) H → va_S (xk_A ads s.heap.size) s.heap H locs → lv_has ls 5 [(0, .ref (ad 0)), (1, .int c0), (2, .int c1), (3, .int c2)] → W p l e rm_House_layArguments s m args below meth c H locs 0 0 (xk_MQ below (xk_Qc D kx_cl (kw_h ad ca) ads (xo_v (.inl r)) u') args s (xk_A ads s.heap.size)) (F0 m 2 ls [])) {b1 : Int32} {b2 : Int32} {b3 : Int32} {s0 : Int64} {u : xk_St} {H : Heap} {locs : List Loc} {ls : Array Slot} (h : jb_House_layArguments_59 fu k2 b1 b2 b3 s0 u = some (r, u')) (hP : va_P D kx_cl (kw_h ad ca u) H) (hS : va_S (xk_A ads s.heap.size) s.heap H locs) (hl : lv_has ls 5 [(0, .ref (ad 0)), (1, .int b1), (2, .int b2), (3, .int b3)]) : W p l e rm_House_layArguments s m args below meth c H locs 0 0 (xk_MQ below (xk_Qc D kx_cl (kw_h ad ca) ads (xo_v (.inl r)) u') args s (xk_A ads s.heap.size)) (F0 m 59 ls [.long s0, .ref (ad 61)]) := by
  have hx := C.1.1
  have hb := C.1.2.1
  have hok := C.2.2.1
  unfold jb_House_layArguments_59 at h
  obtain ⟨rx, u3, hq, h⟩ := xp_seq h
  refine xk_goesV (xr_V (As := [.long s0]) (rest := []) C hP hS (ct_Values_push__h61 htr hok hq) kq_House_175 61 10 rfl rfl ⟨rfl, rfl, Nat.le_of_ble_eq_true rfl, Nat.le_of_ble_eq_true rfl⟩ ⟨Nat.le_of_ble_eq_true rfl, Nat.le_of_ble_eq_true rfl⟩ hl.1 rfl rfl (Nat.le_of_ble_eq_true rfl) dd_House_layArguments_59) hS (fun H locs hP hS => ?_)
  clear hq
  obtain ⟨a4, ea4, h⟩ := xp_let h
  refine lv_iinc (v := a4) (lv' := [(3, .int a4), (0, .ref (ad 0)), (1, .int b1), (2, .int b2)]) hx hb dd_House_layArguments_62 hl (k := 3) rfl (by rw [ea4]; first | rfl | decide) (by decide) rfl (fun ls hl => ?_)
  refine lv_goto (tgt := 2) hx hb dd_House_layArguments_65 (by decide) ?_
  exact hk2 b1 b2 a4 u3 _ _ _ h hP hS (lv_sub hl [1, 2, 3, 0] rfl)
set_option maxHeartbeats 4000000 in
set_option maxRecDepth 100000 in
theorem wj_House_layArguments_28 {p : Program} {l : Launch} {e : Env} {s : State} {m : MethodId} {args : Array Value} {below : List Frame} {meth : Method} {c : Code} {D : va_G} {ad : Nat → Nat} {ca : Nat → ClassId} {ads : List Nat} {fu : Nat} (htr : l.stackTraces = false) (C : xk_C D kx_cl (kx_ty ca) (kw_h ad ca) ads "ModuleHouse" prog_1_method_9_code 5 none p e s m args meth c) (hne : c.exceptionTable.isEmpty = true) {u' : xk_St} {r : Unit} {k2 : Int32 → Int32 → Int32 → xk_St → Option (Unit × xk_St)} (hk2 : ∀ (c0 : Int32) (c1 : Int32) (c2 : Int32) (u : xk_St) (H : Heap) (locs : List Loc) (ls : Array Slot), k2 c0 c1 c2 u = some (r, u') → va_P D kx_cl (kw_h ad ca u) H → va_S (xk_A ads s.heap.size) s.heap H locs → lv_has ls 5 [(0, .ref (ad 0)), (1, .int c0), (2, .int c1), (3, .int c2)] → W p l e rm_House_layArguments s m args below meth c H locs 0 0 (xk_MQ below (xk_Qc D kx_cl (kw_h ad ca) ads (xo_v (.inl r)) u') args s (xk_A ads s.heap.size)) (F0 m 2 ls [])) {b1 : Int32} {b2 : Int32} {b3 : Int32} {s0 : Int32} {u : xk_St} {H : Heap} {locs : List Loc} {ls : Array Slot} (h : jb_House_layArguments_28 fu k2 b1 b2 b3 s0 u = some (r, u')) (hP : va_P D kx_cl (kw_h ad ca u) H) (hS : va_S (xk_A ads s.heap.size) s.heap H locs) (hl : lv_has ls 5 [(0, .ref (ad 0)), (1, .int b1), (2, .int b2), (3, .int b3)]) : W p l e rm_House_layArguments s m args below meth c H locs 0 0 (xk_MQ below (xk_Qc D kx_cl (kw_h ad ca) ads (xo_v (.inl r)) u') args s (xk_A ads s.heap.size)) (F0 m 28 ls [.int s0]) := by
  have hx := C.1.1
  have hb := C.1.2.1
  have hok := C.2.2.1
  unfold jb_House_layArguments_28 at h
  refine lv_istore (lv' := [(4, .int s0), (0, .ref (ad 0)), (1, .int b1), (2, .int b2), (3, .int b3)]) hx hb dd_House_layArguments_28 hl (by decide) rfl (fun ls hl => ?_)
  refine lv_aload_n hx hb dd_House_layArguments_30 rfl (lv_at hl 1 rfl) ?_
  refine gf_h_House_0_machine C hP dd_House_layArguments_31 ?_
  refine gf_h_House_60_values C hP dd_House_layArguments_34 ?_
  refine lv_iload hx hb dd_House_layArguments_37 (lv_at hl 0 rfl) ?_
  refine lv_if_eq (tgt := 53) hx hb dd_House_layArguments_39 (by decide) (fun hc => ?_) (fun hc => ?_)
  · have h := xp_t hc h
    refine lv_aload_n hx hb dd_House_layArguments_53 rfl (lv_at hl 1 rfl) ?_
    refine gf_h_House_0_arguments C hP dd_House_layArguments_54 ?_
    refine lv_iload_n hx hb dd_House_layArguments_57 rfl (lv_at hl 4 rfl) ?_
    obtain ⟨hi, h⟩ := xp_g h
    refine al_h_2 C hP hi dd_House_layArguments_58 ?_
    exact wj_House_layArguments_59 htr C hne hk2 h hP hS (lv_sub hl [1, 2, 3, 4] rfl)
  · have h := xp_f hc h
    refine lv_aload_n hx hb dd_House_layArguments_42 rfl (lv_at hl 1 rfl) ?_
    refine gf_h_House_0_arguments C hP dd_House_layArguments_43 ?_
    refine lv_iload_n hx hb dd_House_layArguments_46 rfl (lv_at hl 4 rfl) ?_
    obtain ⟨hi, h⟩ := xp_g h
    refine al_h_2 C hP hi dd_House_layArguments_47 ?_
    refine lv_l2i hx hb dd_House_layArguments_48 rfl ?_
    refine lv_i2l hx hb dd_House_layArguments_49 rfl ?_
    refine lv_goto (tgt := 59) hx hb dd_House_layArguments_50 (by decide) ?_
    exact wj_House_layArguments_59 htr C hne hk2 h hP hS (lv_sub hl [1, 2, 3, 4] rfl)
set_option maxHeartbeats 4000000 in
set_option maxRecDepth 100000 in
theorem wj_House_layArguments_2 {p : Program} {l : Launch} {e : Env} {s : State} {m : MethodId} {args : Array Value} {below : List Frame} {meth : Method} {c : Code} {D : va_G} {ad : Nat → Nat} {ca : Nat → ClassId} {ads : List Nat} {fu : Nat} (htr : l.stackTraces = false) (C : xk_C D kx_cl (kx_ty ca) (kw_h ad ca) ads "ModuleHouse" prog_1_method_9_code 5 none p e s m args meth c) (hne : c.exceptionTable.isEmpty = true) {u' : xk_St} {r : Unit} : ∀ {n : Nat} {b1 : Int32} {b2 : Int32} {b3 : Int32} {u : xk_St} {H : Heap} {locs : List Loc} {ls : Array Slot} (h : jb_House_layArguments_2 fu  n b1 b2 b3 u = some (r, u')) (hP : va_P D kx_cl (kw_h ad ca u) H) (hS : va_S (xk_A ads s.heap.size) s.heap H locs) (hl : lv_has ls 5 [(0, .ref (ad 0)), (1, .int b1), (2, .int b2), (3, .int b3)]), W p l e rm_House_layArguments s m args below meth c H locs 0 0 (xk_MQ below (xk_Qc D kx_cl (kw_h ad ca) ads (xo_v (.inl r)) u') args s (xk_A ads s.heap.size)) (F0 m 2 ls []) := by
  intro n
  have hx := C.1.1
  have hb := C.1.2.1
  have hok := C.2.2.1
  induction n with
  | zero =>
    intro _ _ _ u H locs ls h
    have h : none = some (r, u') := h
    cases h
  | succ n ih =>
    intro b1 b2 b3 u H locs ls h hP hS hl
    unfold jb_House_layArguments_2 at h
    obtain ⟨k2, ek2, h⟩ := xp_let h
    have hk2 : ∀ (c0 : Int32) (c1 : Int32) (c2 : Int32) (u : xk_St) (H : Heap) (locs : List Loc) (ls : Array Slot), k2 c0 c1 c2 u = some (r, u') → va_P D kx_cl (kw_h ad ca u) H → va_S (xk_A ads s.heap.size) s.heap H locs → lv_has ls 5 [(0, .ref (ad 0)), (1, .int c0), (2, .int c1), (3, .int c2)] → W p l e rm_House_layArguments s m args below meth c H locs 0 0 (xk_MQ below (xk_Qc D kx_cl (kw_h ad ca) ads (xo_v (.inl r)) u') args s (xk_A ads s.heap.size)) (F0 m 2 ls []) := by
      intro c0 c1 c2 u H locs ls h hP hS hl
      subst ek2
      exact ih h hP hS hl
    clear ih ek2
    refine lv_iload_n hx hb dd_House_layArguments_2 rfl (lv_at hl 3 rfl) ?_
    refine lv_iload_n hx hb dd_House_layArguments_3 rfl (lv_at hl 2 rfl) ?_
    refine lv_icmp_ge (tgt := 68) hx hb dd_House_layArguments_4 (by decide) (fun hc => ?_) (fun hc => ?_)
    · have h := xp_t hc h
      obtain ⟨rfl, rfl⟩ := xp_r h
      exact xr_vret C hP hS dd_House_layArguments_68
    · have h := xp_f hc h
      refine lv_aload_n hx hb dd_House_layArguments_7 rfl (lv_at hl 0 rfl) ?_
      refine gf_h_House_0_module C hP dd_House_layArguments_8 ?_
      refine gf_h_House_4_types C hP dd_House_layArguments_11 ?_
      refine lv_iload_n hx hb dd_House_layArguments_14 rfl (lv_at hl 1 rfl) ?_
      refine lv_iload_n hx hb dd_House_layArguments_15 rfl (lv_at hl 3 rfl) ?_
      obtain ⟨a1, u2, hq, h⟩ := xp_seq h
      refine xk_goesI (xr_V (As := [.int b1, .int b3]) (rest := []) C hP hS (ct_Types_member htr hok hq) kq_House_168 6 9 rfl rfl ⟨rfl, rfl, Nat.le_of_ble_eq_true rfl, Nat.le_of_ble_eq_true rfl⟩ ⟨Nat.le_of_ble_eq_true rfl, Nat.le_of_ble_eq_true rfl⟩ hl.1 rfl rfl (Nat.le_of_ble_eq_true rfl) dd_House_layArguments_16) hS (fun H locs hP hS => ?_)
      clear hq
      refine lv_iconst (v := 1) hx hb dd_House_layArguments_19 (by decide) ?_
      refine lv_icmp_ne (tgt := 27) hx hb dd_House_layArguments_20 (by decide) (fun hc => ?_) (fun hc => ?_)
      · have h := xp_f hc h
        refine lv_iconst (v := 0) hx hb dd_House_layArguments_27 (by decide) ?_
        exact wj_House_layArguments_28 htr C hne hk2 h hP hS (lv_sub hl [0, 1, 2, 3] rfl)
      · have h := xp_t hc h
        refine lv_iconst (v := 1) hx hb dd_House_layArguments_23 (by decide) ?_
        refine lv_goto (tgt := 28) hx hb dd_House_layArguments_24 (by decide) ?_
        exact wj_House_layArguments_28 htr C hne hk2 h hP hS (lv_sub hl [0, 1, 2, 3] rfl)
set_option maxHeartbeats 4000000 in
set_option maxRecDepth 100000 in
theorem ct_House_layArguments {l : Launch} {D : va_G} {ad : Nat → Nat} {ca : Nat → ClassId} {ads : List Nat} (htr : l.stackTraces = false) (hok : xk_ok (kw_h ad ca) ads) {fu : Nat} {x0 : Int32} {x1 : Int32} {u u' : xk_St} {r : Unit} (h : fm_House_layArguments fu x0 x1 u = some (r, u')) :
    ∀ sz, xk_Met l ⟨"ModuleHouse", "layArguments", "(II)V"⟩ (Cond.code ⟨"ModuleHouse", "layArguments", "(II)V"⟩ prog_1_method_9_code 5 none :: xk_gd) rm_House_layArguments (xk_Pc D kx_cl (kx_ty ca) (kw_h ad ca) ads xk_F sz [.ref (ad 0), .int x0, .int x1] u) (xk_Qc D kx_cl (kw_h ad ca) ads (xo_v (.inl r)) u') (xk_A ads sz) := by
  unfold fm_House_layArguments at h
  refine xk_con (by decide) htr hok (Nat.le_of_ble_eq_true rfl) (fun p e s m below meth c ls C hne hl hP => ?_)
  have hx := C.1.1
  have hb := C.1.2.1
  have hS : va_S (xk_A ads s.heap.size) s.heap s.heap [] := va_S.rf
  have hl : lv_has ls 5 [(0, .ref (ad 0)), (1, .int x0), (2, .int x1)] := hl
  refine lv_iconst (v := 0) hx hb dd_House_layArguments_0 (by decide) ?_
  refine lv_istore_n (lv' := [(3, .int (0 : Int32)), (0, .ref (ad 0)), (1, .int x0), (2, .int x1)]) hx hb dd_House_layArguments_1 rfl hl (by decide) rfl (fun ls hl => ?_)
  exact wj_House_layArguments_2 htr C hne h hP hS (lv_sub hl [1, 2, 3, 0] rfl)
abbrev rm_Machine_spendTurn : Room := { frames := 1, cells := 1, slots := 6, locals := 0 }
noncomputable def fm_Machine_spendTurn (u : xk_St) : Option (Int32 × xk_St) :=
  if (u.1 23) = (0 : Int32) then ((xs_let (xs_I u 27 (13 : Int32)) fun u2 => some ((0 : Int32), u2))) else ((xs_let (xs_I u 23 ((u.1 23) - (1 : Int32))) fun u1 => some ((1 : Int32), u1)))
set_option maxHeartbeats 4000000 in
set_option maxRecDepth 100000 in
theorem ct_Machine_spendTurn {l : Launch} {D : va_G} {ad : Nat → Nat} {ca : Nat → ClassId} {ads : List Nat} (htr : l.stackTraces = false) (hok : xk_ok (kw_h ad ca) ads) {u u' : xk_St} {r : Int32} (h : fm_Machine_spendTurn u = some (r, u')) :
    ∀ sz, xk_Met l ⟨"ModuleHouse$Machine", "spendTurn", "()Z"⟩ (Cond.code ⟨"ModuleHouse$Machine", "spendTurn", "()Z"⟩ prog_5_method_8_code 1 (some .boolean) :: xk_gd) rm_Machine_spendTurn (xk_Pc D kx_cl (kx_ty ca) (kw_h ad ca) ads xk_F sz [.ref (ad 60)] u) (xk_Qc D kx_cl (kw_h ad ca) ads (xo_i (.inl r)) u') (xk_A ads sz) := by
  unfold fm_Machine_spendTurn at h
  refine xk_con (by decide) htr hok (Nat.le_of_ble_eq_true rfl) (fun p e s m below meth c ls C hne hl hP => ?_)
  have hx := C.1.1
  have hb := C.1.2.1
  have hS : va_S (xk_A ads s.heap.size) s.heap s.heap [] := va_S.rf
  have hl : lv_has ls 1 [(0, .ref (ad 60))] := hl
  refine lv_aload_n hx hb dd_Machine_spendTurn_0 rfl (lv_at hl 0 rfl) ?_
  refine gf_h_Machine_60_turns C hP dd_Machine_spendTurn_1 ?_
  refine lv_if_ne (tgt := 15) hx hb dd_Machine_spendTurn_4 (by decide) (fun hc => ?_) (fun hc => ?_)
  · have h := xp_f hc h
    refine lv_aload_n hx hb dd_Machine_spendTurn_15 rfl (lv_at hl 0 rfl) ?_
    refine lv_dup hx hb dd_Machine_spendTurn_16 rfl ?_
    refine gf_h_Machine_60_turns C hP dd_Machine_spendTurn_17 ?_
    refine lv_iconst (v := 1) hx hb dd_Machine_spendTurn_20 (by decide) ?_
    refine lv_isub hx hb dd_Machine_spendTurn_21 ?_
    refine pf_h_Machine_60_turns C hP hS dd_Machine_spendTurn_22 (fun H locs hP hS => ?_)
    obtain ⟨u1, eu1, h⟩ := xp_let h
    rw [← eu1] at hP
    refine lv_iconst (v := 1) hx hb dd_Machine_spendTurn_25 (by decide) ?_
    obtain ⟨rfl, rfl⟩ := xp_r h
    exact xr_zret C hP hS (by decide) dd_Machine_spendTurn_26
  · have h := xp_t hc h
    refine lv_aload_n hx hb dd_Machine_spendTurn_7 rfl (lv_at hl 0 rfl) ?_
    refine lv_bipush (v := 13) hx hb dd_Machine_spendTurn_8 (by decide) ?_
    refine pf_h_Machine_60_trap C hP hS dd_Machine_spendTurn_10 (fun H locs hP hS => ?_)
    obtain ⟨u2, eu2, h⟩ := xp_let h
    rw [← eu2] at hP
    refine lv_iconst (v := 0) hx hb dd_Machine_spendTurn_13 (by decide) ?_
    obtain ⟨rfl, rfl⟩ := xp_r h
    exact xr_zret C hP hS (by decide) dd_Machine_spendTurn_14
abbrev rm_Machine_enter : Room := { frames := 2, cells := 1, slots := 6, locals := 20 }
noncomputable def fm_Machine_enter (x0 : Int32) (u : xk_St) : Option (Unit × xk_St) :=
  (xs_seq (fm_Machine_spendTurn u) fun a1 u2 => if a1 = (0 : Int32) then (some ((()), u2)) else (if (u2.1 24) = (60 : Int32) then ((xs_let (xs_I u2 27 (12 : Int32)) fun u9 => some ((()), u9))) else ((if (u2.1 24) < 0 ∨ 60 ≤ (u2.1 24).toNatClampNeg then none else xs_let (xs_A u2 48 (u2.1 24).toNatClampNeg x0) fun u3 => if x0 < 0 ∨ 65 ≤ x0.toNatClampNeg then none else if (u3.2.2.1 12 x0.toNatClampNeg) < 0 ∨ 65 ≤ (u3.2.2.1 12 x0.toNatClampNeg).toNatClampNeg then none else if (u3.1 24) < 0 ∨ 60 ≤ (u3.1 24).toNatClampNeg then none else xs_let (xs_A u3 49 (u3.1 24).toNatClampNeg ((u3.1 28) - (u3.2.2.1 3 (u3.2.2.1 12 x0.toNatClampNeg).toNatClampNeg))) fun u4 => if (u4.1 24) < 0 ∨ 60 ≤ (u4.1 24).toNatClampNeg then none else xs_let (xs_A u4 50 (u4.1 24).toNatClampNeg (u4.1 26)) fun u5 => if (u5.1 24) < 0 ∨ 60 ≤ (u5.1 24).toNatClampNeg then none else if x0 < 0 ∨ 65 ≤ x0.toNatClampNeg then none else xs_let (xs_I u5 25 ((u5.2.2.1 49 (u5.1 24).toNatClampNeg) + (u5.2.2.1 14 x0.toNatClampNeg))) fun u6 => if x0 < 0 ∨ 65 ≤ x0.toNatClampNeg then none else xs_let (xs_I u6 26 ((u6.2.2.1 13 x0.toNatClampNeg) + (1 : Int32))) fun u7 => xs_let (xs_I u7 24 ((u7.1 24) + (1 : Int32))) fun u8 => some ((()), u8)))))
set_option maxHeartbeats 4000000 in
set_option maxRecDepth 100000 in
theorem ct_Machine_enter {l : Launch} {D : va_G} {ad : Nat → Nat} {ca : Nat → ClassId} {ads : List Nat} (htr : l.stackTraces = false) (hok : xk_ok (kw_h ad ca) ads) {x0 : Int32} {u u' : xk_St} {r : Unit} (h : fm_Machine_enter x0 u = some (r, u')) :
    ∀ sz, xk_Met l ⟨"ModuleHouse$Machine", "enter", "(I)V"⟩ (Cond.code ⟨"ModuleHouse$Machine", "enter", "(I)V"⟩ prog_5_method_9_code 2 none :: xk_gd) rm_Machine_enter (xk_Pc D kx_cl (kx_ty ca) (kw_h ad ca) ads xk_F sz [.ref (ad 60), .int x0] u) (xk_Qc D kx_cl (kw_h ad ca) ads (xo_v (.inl r)) u') (xk_A ads sz) := by
  unfold fm_Machine_enter at h
  refine xk_con (by decide) htr hok (Nat.le_of_ble_eq_true rfl) (fun p e s m below meth c ls C hne hl hP => ?_)
  have hx := C.1.1
  have hb := C.1.2.1
  have hS : va_S (xk_A ads s.heap.size) s.heap s.heap [] := va_S.rf
  have hl : lv_has ls 2 [(0, .ref (ad 60)), (1, .int x0)] := hl
  refine lv_aload_n hx hb dd_Machine_enter_0 rfl (lv_at hl 0 rfl) ?_
  obtain ⟨a1, u2, hq, h⟩ := xp_seq h
  refine xk_goesI (xr_V (As := []) (rest := []) C hP hS (ct_Machine_spendTurn htr hok hq) kq_Machine_213 60 4 rfl rfl ⟨rfl, rfl, Nat.le_of_ble_eq_true rfl, Nat.le_of_ble_eq_true rfl⟩ ⟨Nat.le_of_ble_eq_true rfl, Nat.le_of_ble_eq_true rfl⟩ hl.1 rfl rfl (Nat.le_of_ble_eq_true rfl) dd_Machine_enter_1) hS (fun H locs hP hS => ?_)
  clear hq
  refine lv_if_ne (tgt := 8) hx hb dd_Machine_enter_4 (by decide) (fun hc => ?_) (fun hc => ?_)
  · have h := xp_f hc h
    refine lv_aload_n hx hb dd_Machine_enter_8 rfl (lv_at hl 0 rfl) ?_
    refine gf_h_Machine_60_depth C hP dd_Machine_enter_9 ?_
    refine lv_bipush (v := 60) hx hb dd_Machine_enter_12 (by decide) ?_
    refine lv_icmp_ne (tgt := 24) hx hb dd_Machine_enter_14 (by decide) (fun hc => ?_) (fun hc => ?_)
    · have h := xp_f hc h
      refine lv_aload_n hx hb dd_Machine_enter_24 rfl (lv_at hl 0 rfl) ?_
      refine gf_h_Machine_60_function C hP dd_Machine_enter_25 ?_
      refine lv_aload_n hx hb dd_Machine_enter_28 rfl (lv_at hl 0 rfl) ?_
      refine gf_h_Machine_60_depth C hP dd_Machine_enter_29 ?_
      refine lv_iload_n hx hb dd_Machine_enter_32 rfl (lv_at hl 1 rfl) ?_
      obtain ⟨hi, h⟩ := xp_g h
      refine as_h_80 C hP hS hi dd_Machine_enter_33 (fun H locs hP hS => ?_)
      obtain ⟨u3, eu3, h⟩ := xp_let h
      rw [← eu3] at hP
      refine lv_aload_n hx hb dd_Machine_enter_34 rfl (lv_at hl 0 rfl) ?_
      refine gf_h_Machine_60_base C hP dd_Machine_enter_35 ?_
      refine lv_aload_n hx hb dd_Machine_enter_38 rfl (lv_at hl 0 rfl) ?_
      refine gf_h_Machine_60_depth C hP dd_Machine_enter_39 ?_
      refine lv_aload_n hx hb dd_Machine_enter_42 rfl (lv_at hl 0 rfl) ?_
      refine gf_h_Machine_60_values C hP dd_Machine_enter_43 ?_
      refine gf_h_Machine_61_top C hP dd_Machine_enter_46 ?_
      refine lv_aload_n hx hb dd_Machine_enter_49 rfl (lv_at hl 0 rfl) ?_
      refine gf_h_Machine_60_types C hP dd_Machine_enter_50 ?_
      refine gf_h_Machine_6_members C hP dd_Machine_enter_53 ?_
      refine lv_aload_n hx hb dd_Machine_enter_56 rfl (lv_at hl 0 rfl) ?_
      refine gf_h_Machine_60_module C hP dd_Machine_enter_57 ?_
      refine gf_h_Machine_4_functions C hP dd_Machine_enter_60 ?_
      refine gf_h_Machine_19_kind C hP dd_Machine_enter_63 ?_
      refine lv_iload_n hx hb dd_Machine_enter_66 rfl (lv_at hl 1 rfl) ?_
      obtain ⟨hi, h⟩ := xp_g h
      refine al_h_20 C hP hi dd_Machine_enter_67 ?_
      obtain ⟨hi, h⟩ := xp_g h
      refine al_h_8 C hP hi dd_Machine_enter_68 ?_
      refine lv_isub hx hb dd_Machine_enter_69 ?_
      obtain ⟨hi, h⟩ := xp_g h
      refine as_h_81 C hP hS hi dd_Machine_enter_70 (fun H locs hP hS => ?_)
      obtain ⟨u4, eu4, h⟩ := xp_let h
      rw [← eu4] at hP
      refine lv_aload_n hx hb dd_Machine_enter_71 rfl (lv_at hl 0 rfl) ?_
      refine gf_h_Machine_60_back C hP dd_Machine_enter_72 ?_
      refine lv_aload_n hx hb dd_Machine_enter_75 rfl (lv_at hl 0 rfl) ?_
      refine gf_h_Machine_60_depth C hP dd_Machine_enter_76 ?_
      refine lv_aload_n hx hb dd_Machine_enter_79 rfl (lv_at hl 0 rfl) ?_
      refine gf_h_Machine_60_next C hP dd_Machine_enter_80 ?_
      obtain ⟨hi, h⟩ := xp_g h
      refine as_h_82 C hP hS hi dd_Machine_enter_83 (fun H locs hP hS => ?_)
      obtain ⟨u5, eu5, h⟩ := xp_let h
      rw [← eu5] at hP
      refine lv_aload_n hx hb dd_Machine_enter_84 rfl (lv_at hl 0 rfl) ?_
      refine lv_aload_n hx hb dd_Machine_enter_85 rfl (lv_at hl 0 rfl) ?_
      refine gf_h_Machine_60_base C hP dd_Machine_enter_86 ?_
      refine lv_aload_n hx hb dd_Machine_enter_89 rfl (lv_at hl 0 rfl) ?_
      refine gf_h_Machine_60_depth C hP dd_Machine_enter_90 ?_
      obtain ⟨hi, h⟩ := xp_g h
      refine al_h_81 C hP hi dd_Machine_enter_93 ?_
      refine lv_aload_n hx hb dd_Machine_enter_94 rfl (lv_at hl 0 rfl) ?_
      refine gf_h_Machine_60_module C hP dd_Machine_enter_95 ?_
      refine gf_h_Machine_4_functions C hP dd_Machine_enter_98 ?_
      refine gf_h_Machine_19_second C hP dd_Machine_enter_101 ?_
      refine lv_iload_n hx hb dd_Machine_enter_104 rfl (lv_at hl 1 rfl) ?_
      obtain ⟨hi, h⟩ := xp_g h
      refine al_h_22 C hP hi dd_Machine_enter_105 ?_
      refine lv_iadd hx hb dd_Machine_enter_106 ?_
      refine pf_h_Machine_60_floor C hP hS dd_Machine_enter_107 (fun H locs hP hS => ?_)
      obtain ⟨u6, eu6, h⟩ := xp_let h
      rw [← eu6] at hP
      refine lv_aload_n hx hb dd_Machine_enter_110 rfl (lv_at hl 0 rfl) ?_
      refine lv_aload_n hx hb dd_Machine_enter_111 rfl (lv_at hl 0 rfl) ?_
      refine gf_h_Machine_60_module C hP dd_Machine_enter_112 ?_
      refine gf_h_Machine_4_functions C hP dd_Machine_enter_115 ?_
      refine gf_h_Machine_19_first C hP dd_Machine_enter_118 ?_
      refine lv_iload_n hx hb dd_Machine_enter_121 rfl (lv_at hl 1 rfl) ?_
      obtain ⟨hi, h⟩ := xp_g h
      refine al_h_21 C hP hi dd_Machine_enter_122 ?_
      refine lv_iconst (v := 1) hx hb dd_Machine_enter_123 (by decide) ?_
      refine lv_iadd hx hb dd_Machine_enter_124 ?_
      refine pf_h_Machine_60_next C hP hS dd_Machine_enter_125 (fun H locs hP hS => ?_)
      obtain ⟨u7, eu7, h⟩ := xp_let h
      rw [← eu7] at hP
      refine lv_aload_n hx hb dd_Machine_enter_128 rfl (lv_at hl 0 rfl) ?_
      refine lv_dup hx hb dd_Machine_enter_129 rfl ?_
      refine gf_h_Machine_60_depth C hP dd_Machine_enter_130 ?_
      refine lv_iconst (v := 1) hx hb dd_Machine_enter_133 (by decide) ?_
      refine lv_iadd hx hb dd_Machine_enter_134 ?_
      refine pf_h_Machine_60_depth C hP hS dd_Machine_enter_135 (fun H locs hP hS => ?_)
      obtain ⟨u8, eu8, h⟩ := xp_let h
      rw [← eu8] at hP
      obtain ⟨rfl, rfl⟩ := xp_r h
      exact xr_vret C hP hS dd_Machine_enter_138
    · have h := xp_t hc h
      refine lv_aload_n hx hb dd_Machine_enter_17 rfl (lv_at hl 0 rfl) ?_
      refine lv_bipush (v := 12) hx hb dd_Machine_enter_18 (by decide) ?_
      refine pf_h_Machine_60_trap C hP hS dd_Machine_enter_20 (fun H locs hP hS => ?_)
      obtain ⟨u9, eu9, h⟩ := xp_let h
      rw [← eu9] at hP
      obtain ⟨rfl, rfl⟩ := xp_r h
      exact xr_vret C hP hS dd_Machine_enter_23
  · have h := xp_t hc h
    obtain ⟨rfl, rfl⟩ := xp_r h
    exact xr_vret C hP hS dd_Machine_enter_7
abbrev rm_Machine_isOf : Room := { frames := 1, cells := 1, slots := 6, locals := 0 }
noncomputable def fm_Machine_isOf (x0 : Int32) (x1 : Int32) (u : xk_St) : Option (Int32 × xk_St) :=
  if x1 = (0 : Int32) then (some ((1 : Int32), u)) else (if x1 = (1 : Int32) then (if (0 : Int32) ≤ x0 then (some ((0 : Int32), u)) else (some ((1 : Int32), u))) else (if x0 ≤ (0 : Int32) then (some ((0 : Int32), u)) else ((if x0 < 0 ∨ 2001 ≤ x0.toNatClampNeg then none else if (x1 - (3 : Int32)) < 0 ∨ 65 ≤ (x1 - (3 : Int32)).toNatClampNeg then none else if (u.2.2.1 40 x0.toNatClampNeg) = (u.2.2.1 5 (x1 - (3 : Int32)).toNatClampNeg) then (some ((1 : Int32), u)) else (some ((0 : Int32), u))))))
set_option maxHeartbeats 4000000 in
set_option maxRecDepth 100000 in
theorem ct_Machine_isOf {l : Launch} {D : va_G} {ad : Nat → Nat} {ca : Nat → ClassId} {ads : List Nat} (htr : l.stackTraces = false) (hok : xk_ok (kw_h ad ca) ads) {x0 : Int32} {x1 : Int32} {u u' : xk_St} {r : Int32} (h : fm_Machine_isOf x0 x1 u = some (r, u')) :
    ∀ sz, xk_Met l ⟨"ModuleHouse$Machine", "isOf", "(II)Z"⟩ (Cond.code ⟨"ModuleHouse$Machine", "isOf", "(II)Z"⟩ prog_5_method_32_code 3 (some .boolean) :: xk_gd) rm_Machine_isOf (xk_Pc D kx_cl (kx_ty ca) (kw_h ad ca) ads xk_F sz [.ref (ad 60), .int x0, .int x1] u) (xk_Qc D kx_cl (kw_h ad ca) ads (xo_i (.inl r)) u') (xk_A ads sz) := by
  unfold fm_Machine_isOf at h
  refine xk_con (by decide) htr hok (Nat.le_of_ble_eq_true rfl) (fun p e s m below meth c ls C hne hl hP => ?_)
  have hx := C.1.1
  have hb := C.1.2.1
  have hS : va_S (xk_A ads s.heap.size) s.heap s.heap [] := va_S.rf
  have hl : lv_has ls 3 [(0, .ref (ad 60)), (1, .int x0), (2, .int x1)] := hl
  refine lv_iload_n hx hb dd_Machine_isOf_0 rfl (lv_at hl 2 rfl) ?_
  refine lv_if_ne (tgt := 6) hx hb dd_Machine_isOf_1 (by decide) (fun hc => ?_) (fun hc => ?_)
  · have h := xp_f hc h
    refine lv_iload_n hx hb dd_Machine_isOf_6 rfl (lv_at hl 2 rfl) ?_
    refine lv_iconst (v := 1) hx hb dd_Machine_isOf_7 (by decide) ?_
    refine lv_icmp_ne (tgt := 21) hx hb dd_Machine_isOf_8 (by decide) (fun hc => ?_) (fun hc => ?_)
    · have h := xp_f hc h
      refine lv_iload_n hx hb dd_Machine_isOf_21 rfl (lv_at hl 1 rfl) ?_
      refine lv_if_le (tgt := 52) hx hb dd_Machine_isOf_22 (by decide) (fun hc => ?_) (fun hc => ?_)
      · have h := xp_t hc h
        refine lv_iconst (v := 0) hx hb dd_Machine_isOf_52 (by decide) ?_
        obtain ⟨rfl, rfl⟩ := xp_r h
        exact xr_zret C hP hS (by decide) dd_Machine_isOf_53
      · have h := xp_f hc h
        refine lv_aload_n hx hb dd_Machine_isOf_25 rfl (lv_at hl 0 rfl) ?_
        refine gf_h_Machine_60_heap C hP dd_Machine_isOf_26 ?_
        refine gf_h_Machine_67_kind C hP dd_Machine_isOf_29 ?_
        refine lv_iload_n hx hb dd_Machine_isOf_32 rfl (lv_at hl 1 rfl) ?_
        obtain ⟨hi, h⟩ := xp_g h
        refine al_h_71 C hP hi dd_Machine_isOf_33 ?_
        refine lv_aload_n hx hb dd_Machine_isOf_34 rfl (lv_at hl 0 rfl) ?_
        refine gf_h_Machine_60_types C hP dd_Machine_isOf_35 ?_
        refine gf_h_Machine_6_like C hP dd_Machine_isOf_38 ?_
        refine lv_iload_n hx hb dd_Machine_isOf_41 rfl (lv_at hl 2 rfl) ?_
        refine lv_iconst (v := 3) hx hb dd_Machine_isOf_42 (by decide) ?_
        refine lv_isub hx hb dd_Machine_isOf_43 ?_
        obtain ⟨hi, h⟩ := xp_g h
        refine al_h_10 C hP hi dd_Machine_isOf_44 ?_
        refine lv_icmp_ne (tgt := 52) hx hb dd_Machine_isOf_45 (by decide) (fun hc => ?_) (fun hc => ?_)
        · have h := xp_f hc h
          refine lv_iconst (v := 0) hx hb dd_Machine_isOf_52 (by decide) ?_
          obtain ⟨rfl, rfl⟩ := xp_r h
          exact xr_zret C hP hS (by decide) dd_Machine_isOf_53
        · have h := xp_t hc h
          refine lv_iconst (v := 1) hx hb dd_Machine_isOf_48 (by decide) ?_
          refine lv_goto (tgt := 53) hx hb dd_Machine_isOf_49 (by decide) ?_
          obtain ⟨rfl, rfl⟩ := xp_r h
          exact xr_zret C hP hS (by decide) dd_Machine_isOf_53
    · have h := xp_t hc h
      refine lv_iload_n hx hb dd_Machine_isOf_11 rfl (lv_at hl 1 rfl) ?_
      refine lv_if_ge (tgt := 19) hx hb dd_Machine_isOf_12 (by decide) (fun hc => ?_) (fun hc => ?_)
      · have h := xp_t hc h
        refine lv_iconst (v := 0) hx hb dd_Machine_isOf_19 (by decide) ?_
        obtain ⟨rfl, rfl⟩ := xp_r h
        exact xr_zret C hP hS (by decide) dd_Machine_isOf_20
      · have h := xp_f hc h
        refine lv_iconst (v := 1) hx hb dd_Machine_isOf_15 (by decide) ?_
        refine lv_goto (tgt := 20) hx hb dd_Machine_isOf_16 (by decide) ?_
        obtain ⟨rfl, rfl⟩ := xp_r h
        exact xr_zret C hP hS (by decide) dd_Machine_isOf_20
  · have h := xp_t hc h
    refine lv_iconst (v := 1) hx hb dd_Machine_isOf_4 (by decide) ?_
    obtain ⟨rfl, rfl⟩ := xp_r h
    exact xr_zret C hP hS (by decide) dd_Machine_isOf_5
abbrev rm_Values_pushTruth__h61 : Room := { frames := 2, cells := 1, slots := 6, locals := 22 }
noncomputable def jb_Values_pushTruth__h61_10 (s0 : Int64) (u : xk_St) : Option (Unit × xk_St) :=
  (xs_seq (fm_Values_push__h61 s0 u) fun _ u1 => some ((()), u1))
noncomputable def fm_Values_pushTruth__h61 (x0 : Int32) (u : xk_St) : Option (Unit × xk_St) :=
  if x0 = (0 : Int32) then (jb_Values_pushTruth__h61_10 (0 : Int64) u) else (jb_Values_pushTruth__h61_10 (1 : Int64) u)
set_option maxHeartbeats 4000000 in
set_option maxRecDepth 100000 in
theorem wj_Values_pushTruth__h61_10 {p : Program} {l : Launch} {e : Env} {s : State} {m : MethodId} {args : Array Value} {below : List Frame} {meth : Method} {c : Code} {D : va_G} {ad : Nat → Nat} {ca : Nat → ClassId} {ads : List Nat} (htr : l.stackTraces = false) (C : xk_C D kx_cl (kx_ty ca) (kw_h ad ca) ads "ModuleHouse$Values" prog_12_method_3_code 2 none p e s m args meth c) (hne : c.exceptionTable.isEmpty = true) {u' : xk_St} {r : Unit} {s0 : Int64} {u : xk_St} {H : Heap} {locs : List Loc} {ls : Array Slot} (h : jb_Values_pushTruth__h61_10  s0 u = some (r, u')) (hP : va_P D kx_cl (kw_h ad ca u) H) (hS : va_S (xk_A ads s.heap.size) s.heap H locs) (hl : lv_has ls 2 []) : W p l e rm_Values_pushTruth__h61 s m args below meth c H locs 0 0 (xk_MQ below (xk_Qc D kx_cl (kw_h ad ca) ads (xo_v (.inl r)) u') args s (xk_A ads s.heap.size)) (F0 m 10 ls [.long s0, .ref (ad 61)]) := by
  have hx := C.1.1
  have hb := C.1.2.1
  have hok := C.2.2.1
  unfold jb_Values_pushTruth__h61_10 at h
  obtain ⟨rx, u1, hq, h⟩ := xp_seq h
  refine xk_goesV (xr_V (As := [.long s0]) (rest := []) C hP hS (ct_Values_push__h61 htr hok hq) kq_Values_21 61 10 rfl rfl ⟨rfl, rfl, Nat.le_of_ble_eq_true rfl, Nat.le_of_ble_eq_true rfl⟩ ⟨Nat.le_of_ble_eq_true rfl, Nat.le_of_ble_eq_true rfl⟩ hl.1 rfl rfl (Nat.le_of_ble_eq_true rfl) dd_Values_pushTruth_10) hS (fun H locs hP hS => ?_)
  clear hq
  obtain ⟨rfl, rfl⟩ := xp_r h
  exact xr_vret C hP hS dd_Values_pushTruth_13
set_option maxHeartbeats 4000000 in
set_option maxRecDepth 100000 in
theorem ct_Values_pushTruth__h61 {l : Launch} {D : va_G} {ad : Nat → Nat} {ca : Nat → ClassId} {ads : List Nat} (htr : l.stackTraces = false) (hok : xk_ok (kw_h ad ca) ads) {x0 : Int32} {u u' : xk_St} {r : Unit} (h : fm_Values_pushTruth__h61 x0 u = some (r, u')) :
    ∀ sz, xk_Met l ⟨"ModuleHouse$Values", "pushTruth", "(Z)V"⟩ (Cond.code ⟨"ModuleHouse$Values", "pushTruth", "(Z)V"⟩ prog_12_method_3_code 2 none :: xk_gd) rm_Values_pushTruth__h61 (xk_Pc D kx_cl (kx_ty ca) (kw_h ad ca) ads xk_F sz [.ref (ad 61), .int x0] u) (xk_Qc D kx_cl (kw_h ad ca) ads (xo_v (.inl r)) u') (xk_A ads sz) := by
  unfold fm_Values_pushTruth__h61 at h
  refine xk_con (by decide) htr hok (Nat.le_of_ble_eq_true rfl) (fun p e s m below meth c ls C hne hl hP => ?_)
  have hx := C.1.1
  have hb := C.1.2.1
  have hS : va_S (xk_A ads s.heap.size) s.heap s.heap [] := va_S.rf
  have hl : lv_has ls 2 [(0, .ref (ad 61)), (1, .int x0)] := hl
  refine lv_aload_n hx hb dd_Values_pushTruth_0 rfl (lv_at hl 0 rfl) ?_
  refine lv_iload_n hx hb dd_Values_pushTruth_1 rfl (lv_at hl 1 rfl) ?_
  refine lv_if_eq (tgt := 9) hx hb dd_Values_pushTruth_2 (by decide) (fun hc => ?_) (fun hc => ?_)
  · have h := xp_t hc h
    refine lv_lconst (v := 0) hx hb dd_Values_pushTruth_9 (by decide) ?_
    exact wj_Values_pushTruth__h61_10 htr C hne h hP hS (lv_sub hl [] rfl)
  · have h := xp_f hc h
    refine lv_lconst (v := 1) hx hb dd_Values_pushTruth_5 (by decide) ?_
    refine lv_goto (tgt := 10) hx hb dd_Values_pushTruth_6 (by decide) ?_
    exact wj_Values_pushTruth__h61_10 htr C hne h hP hS (lv_sub hl [] rfl)
abbrev rm_Values_pushReference__h61 : Room := { frames := 1, cells := 1, slots := 6, locals := 0 }
noncomputable def fm_Values_pushReference__h61 (x0 : Int64) (u : xk_St) : Option (Unit × xk_St) :=
  (if (u.1 28) < 0 ∨ 18000 ≤ (u.1 28).toNatClampNeg then none else xs_let (xs_B u 10 (u.1 28).toNatClampNeg x0) fun u1 => if (u1.1 28) < 0 ∨ 18000 ≤ (u1.1 28).toNatClampNeg then none else xs_let (xs_A u1 37 (u1.1 28).toNatClampNeg (vp_nar .boolean (1 : Int32))) fun u2 => xs_let (xs_I u2 28 ((u2.1 28) + (1 : Int32))) fun u3 => some ((()), u3))
set_option maxHeartbeats 4000000 in
set_option maxRecDepth 100000 in
theorem ct_Values_pushReference__h61 {l : Launch} {D : va_G} {ad : Nat → Nat} {ca : Nat → ClassId} {ads : List Nat} (htr : l.stackTraces = false) (hok : xk_ok (kw_h ad ca) ads) {x0 : Int64} {u u' : xk_St} {r : Unit} (h : fm_Values_pushReference__h61 x0 u = some (r, u')) :
    ∀ sz, xk_Met l ⟨"ModuleHouse$Values", "pushReference", "(J)V"⟩ (Cond.code ⟨"ModuleHouse$Values", "pushReference", "(J)V"⟩ prog_12_method_4_code 3 none :: xk_gd) rm_Values_pushReference__h61 (xk_Pc D kx_cl (kx_ty ca) (kw_h ad ca) ads xk_F sz [.ref (ad 61), .long x0] u) (xk_Qc D kx_cl (kw_h ad ca) ads (xo_v (.inl r)) u') (xk_A ads sz) := by
  unfold fm_Values_pushReference__h61 at h
  refine xk_con (by decide) htr hok (Nat.le_of_ble_eq_true rfl) (fun p e s m below meth c ls C hne hl hP => ?_)
  have hx := C.1.1
  have hb := C.1.2.1
  have hS : va_S (xk_A ads s.heap.size) s.heap s.heap [] := va_S.rf
  have hl : lv_has ls 3 [(0, .ref (ad 61)), (1, .long x0)] := hl
  refine lv_aload_n hx hb dd_Values_pushReference_0 rfl (lv_at hl 0 rfl) ?_
  refine gf_h_Values_61_value C hP dd_Values_pushReference_1 ?_
  refine lv_aload_n hx hb dd_Values_pushReference_4 rfl (lv_at hl 0 rfl) ?_
  refine gf_h_Values_61_top C hP dd_Values_pushReference_5 ?_
  refine lv_lload_n hx hb dd_Values_pushReference_8 rfl (lv_at hl 1 rfl) ?_
  obtain ⟨hi, h⟩ := xp_g h
  refine as_h_62 C hP hS hi dd_Values_pushReference_9 (fun H locs hP hS => ?_)
  obtain ⟨u1, eu1, h⟩ := xp_let h
  rw [← eu1] at hP
  refine lv_aload_n hx hb dd_Values_pushReference_10 rfl (lv_at hl 0 rfl) ?_
  refine gf_h_Values_61_refers C hP dd_Values_pushReference_11 ?_
  refine lv_aload_n hx hb dd_Values_pushReference_14 rfl (lv_at hl 0 rfl) ?_
  refine gf_h_Values_61_top C hP dd_Values_pushReference_15 ?_
  refine lv_iconst (v := 1) hx hb dd_Values_pushReference_18 (by decide) ?_
  obtain ⟨hi, h⟩ := xp_g h
  refine as_h_63 C hP hS hi dd_Values_pushReference_19 (fun H locs hP hS => ?_)
  obtain ⟨u2, eu2, h⟩ := xp_let h
  rw [← eu2] at hP
  refine lv_aload_n hx hb dd_Values_pushReference_20 rfl (lv_at hl 0 rfl) ?_
  refine lv_dup hx hb dd_Values_pushReference_21 rfl ?_
  refine gf_h_Values_61_top C hP dd_Values_pushReference_22 ?_
  refine lv_iconst (v := 1) hx hb dd_Values_pushReference_25 (by decide) ?_
  refine lv_iadd hx hb dd_Values_pushReference_26 ?_
  refine pf_h_Values_61_top C hP hS dd_Values_pushReference_27 (fun H locs hP hS => ?_)
  obtain ⟨u3, eu3, h⟩ := xp_let h
  rw [← eu3] at hP
  obtain ⟨rfl, rfl⟩ := xp_r h
  exact xr_vret C hP hS dd_Values_pushReference_30
abbrev rm_Machine_doKind : Room := { frames := 3, cells := 1, slots := 6, locals := 43 }
noncomputable def jb_Machine_doKind_139 (b1 : Int32) (s0 : Int32) (u : xk_St) : Option (Unit × xk_St) :=
  if (22 : Int32) ≤ b1 then (if s0 = (0 : Int32) then ((xs_let (xs_I u 27 (9 : Int32)) fun u4 => some ((()), u4))) else (some ((()), u))) else ((xs_let (xs_I u 28 ((u.1 28) - (1 : Int32))) fun u5 => xs_seq (fm_Values_pushTruth__h61 s0 u5) fun _ u6 => some ((()), u6)))
noncomputable def jb_Machine_doKind_108 (s0 : Int64) (u : xk_St) : Option (Unit × xk_St) :=
  (xs_seq (fm_Values_push__h61 s0 u) fun _ u8 => some ((()), u8))
noncomputable def jb_Machine_doKind_83 (b1 : Int32) (b3 : Int32) (u : xk_St) : Option (Unit × xk_St) :=
  if b1 = (29 : Int32) then (jb_Machine_doKind_108 (((b3 <<< ((1 : Int32) &&& 31)) >>> ((1 : Int32) &&& 31)).toInt64) u) else (jb_Machine_doKind_108 ((b3 &&& (2147483647 : Int32)).toInt64) u)
noncomputable def fm_Machine_doKind (x0 : Int32) (x1 : Int32) (u : xk_St) : Option (Unit × xk_St) :=
  (if ((u.1 28) - (1 : Int32)) < 0 ∨ 18000 ≤ ((u.1 28) - (1 : Int32)).toNatClampNeg then none else xs_let ((u.2.2.2 10 ((u.1 28) - (1 : Int32)).toNatClampNeg).toInt32) fun a1 => if x0 = (28 : Int32) then ((xs_let (xs_I u 28 ((u.1 28) - (1 : Int32))) fun u10 => xs_seq (fm_Values_pushReference__h61 ((a1 ||| (-2147483648 : Int32)).toInt64) u10) fun _ u11 => some ((()), u11))) else (if x0 ≤ (28 : Int32) then (if a1 = (0 : Int32) then (if (x0 &&& (1 : Int32)) = (1 : Int32) then (jb_Machine_doKind_139 x0 (1 : Int32) u) else (jb_Machine_doKind_139 x0 (0 : Int32) u)) else ((xs_seq (fm_Machine_isOf a1 x1 u) fun a2 u3 => jb_Machine_doKind_139 x0 a2 u3))) else ((xs_let (xs_I u 28 ((u.1 28) - (1 : Int32))) fun u7 => if a1 = (0 : Int32) then ((xs_let (xs_I u7 27 (8 : Int32)) fun u9 => jb_Machine_doKind_83 x0 a1 u9)) else (jb_Machine_doKind_83 x0 a1 u7)))))
set_option maxHeartbeats 4000000 in
set_option maxRecDepth 100000 in
theorem wj_Machine_doKind_139 {p : Program} {l : Launch} {e : Env} {s : State} {m : MethodId} {args : Array Value} {below : List Frame} {meth : Method} {c : Code} {D : va_G} {ad : Nat → Nat} {ca : Nat → ClassId} {ads : List Nat} (htr : l.stackTraces = false) (C : xk_C D kx_cl (kx_ty ca) (kw_h ad ca) ads "ModuleHouse$Machine" prog_5_method_31_code 5 none p e s m args meth c) (hne : c.exceptionTable.isEmpty = true) {u' : xk_St} {r : Unit} {b1 : Int32} {s0 : Int32} {u : xk_St} {H : Heap} {locs : List Loc} {ls : Array Slot} (h : jb_Machine_doKind_139  b1 s0 u = some (r, u')) (hP : va_P D kx_cl (kw_h ad ca u) H) (hS : va_S (xk_A ads s.heap.size) s.heap H locs) (hl : lv_has ls 5 [(0, .ref (ad 60)), (1, .int b1)]) : W p l e rm_Machine_doKind s m args below meth c H locs 0 0 (xk_MQ below (xk_Qc D kx_cl (kw_h ad ca) ads (xo_v (.inl r)) u') args s (xk_A ads s.heap.size)) (F0 m 139 ls [.int s0]) := by
  have hx := C.1.1
  have hb := C.1.2.1
  have hok := C.2.2.1
  unfold jb_Machine_doKind_139 at h
  refine lv_istore (lv' := [(4, .int s0), (0, .ref (ad 60)), (1, .int b1)]) hx hb dd_Machine_doKind_139 hl (by decide) rfl (fun ls hl => ?_)
  refine lv_iload_n hx hb dd_Machine_doKind_141 rfl (lv_at hl 2 rfl) ?_
  refine lv_bipush (v := 22) hx hb dd_Machine_doKind_142 (by decide) ?_
  refine lv_icmp_ge (tgt := 172) hx hb dd_Machine_doKind_144 (by decide) (fun hc => ?_) (fun hc => ?_)
  · have h := xp_t hc h
    refine lv_iload hx hb dd_Machine_doKind_172 (lv_at hl 0 rfl) ?_
    refine lv_if_ne (tgt := 183) hx hb dd_Machine_doKind_174 (by decide) (fun hc => ?_) (fun hc => ?_)
    · have h := xp_f hc h
      obtain ⟨rfl, rfl⟩ := xp_r h
      exact xr_vret C hP hS dd_Machine_doKind_183
    · have h := xp_t hc h
      refine lv_aload_n hx hb dd_Machine_doKind_177 rfl (lv_at hl 1 rfl) ?_
      refine lv_bipush (v := 9) hx hb dd_Machine_doKind_178 (by decide) ?_
      refine pf_h_Machine_60_trap C hP hS dd_Machine_doKind_180 (fun H locs hP hS => ?_)
      obtain ⟨u4, eu4, h⟩ := xp_let h
      rw [← eu4] at hP
      obtain ⟨rfl, rfl⟩ := xp_r h
      exact xr_vret C hP hS dd_Machine_doKind_183
  · have h := xp_f hc h
    refine lv_aload_n hx hb dd_Machine_doKind_147 rfl (lv_at hl 1 rfl) ?_
    refine gf_h_Machine_60_values C hP dd_Machine_doKind_148 ?_
    refine lv_dup hx hb dd_Machine_doKind_151 rfl ?_
    refine gf_h_Machine_61_top C hP dd_Machine_doKind_152 ?_
    refine lv_iconst (v := 1) hx hb dd_Machine_doKind_155 (by decide) ?_
    refine lv_isub hx hb dd_Machine_doKind_156 ?_
    refine pf_h_Machine_61_top C hP hS dd_Machine_doKind_157 (fun H locs hP hS => ?_)
    obtain ⟨u5, eu5, h⟩ := xp_let h
    rw [← eu5] at hP
    refine lv_aload_n hx hb dd_Machine_doKind_160 rfl (lv_at hl 1 rfl) ?_
    refine gf_h_Machine_60_values C hP dd_Machine_doKind_161 ?_
    refine lv_iload hx hb dd_Machine_doKind_164 (lv_at hl 0 rfl) ?_
    obtain ⟨rx, u6, hq, h⟩ := xp_seq h
    refine xk_goesV (xr_V (As := [.int s0]) (rest := []) C hP hS (ct_Values_pushTruth__h61 htr hok hq) kq_Machine_301 61 10 rfl rfl ⟨rfl, rfl, Nat.le_of_ble_eq_true rfl, Nat.le_of_ble_eq_true rfl⟩ ⟨Nat.le_of_ble_eq_true rfl, Nat.le_of_ble_eq_true rfl⟩ hl.1 rfl rfl (Nat.le_of_ble_eq_true rfl) dd_Machine_doKind_166) hS (fun H locs hP hS => ?_)
    clear hq
    refine lv_goto (tgt := 183) hx hb dd_Machine_doKind_169 (by decide) ?_
    obtain ⟨rfl, rfl⟩ := xp_r h
    exact xr_vret C hP hS dd_Machine_doKind_183
set_option maxHeartbeats 4000000 in
set_option maxRecDepth 100000 in
theorem wj_Machine_doKind_108 {p : Program} {l : Launch} {e : Env} {s : State} {m : MethodId} {args : Array Value} {below : List Frame} {meth : Method} {c : Code} {D : va_G} {ad : Nat → Nat} {ca : Nat → ClassId} {ads : List Nat} (htr : l.stackTraces = false) (C : xk_C D kx_cl (kx_ty ca) (kw_h ad ca) ads "ModuleHouse$Machine" prog_5_method_31_code 5 none p e s m args meth c) (hne : c.exceptionTable.isEmpty = true) {u' : xk_St} {r : Unit} {s0 : Int64} {u : xk_St} {H : Heap} {locs : List Loc} {ls : Array Slot} (h : jb_Machine_doKind_108  s0 u = some (r, u')) (hP : va_P D kx_cl (kw_h ad ca u) H) (hS : va_S (xk_A ads s.heap.size) s.heap H locs) (hl : lv_has ls 5 []) : W p l e rm_Machine_doKind s m args below meth c H locs 0 0 (xk_MQ below (xk_Qc D kx_cl (kw_h ad ca) ads (xo_v (.inl r)) u') args s (xk_A ads s.heap.size)) (F0 m 108 ls [.long s0, .ref (ad 61)]) := by
  have hx := C.1.1
  have hb := C.1.2.1
  have hok := C.2.2.1
  unfold jb_Machine_doKind_108 at h
  obtain ⟨rx, u8, hq, h⟩ := xp_seq h
  refine xk_goesV (xr_V (As := [.long s0]) (rest := []) C hP hS (ct_Values_push__h61 htr hok hq) kq_Machine_99 61 10 rfl rfl ⟨rfl, rfl, Nat.le_of_ble_eq_true rfl, Nat.le_of_ble_eq_true rfl⟩ ⟨Nat.le_of_ble_eq_true rfl, Nat.le_of_ble_eq_true rfl⟩ hl.1 rfl rfl (Nat.le_of_ble_eq_true rfl) dd_Machine_doKind_108) hS (fun H locs hP hS => ?_)
  clear hq
  refine lv_goto (tgt := 183) hx hb dd_Machine_doKind_111 (by decide) ?_
  obtain ⟨rfl, rfl⟩ := xp_r h
  exact xr_vret C hP hS dd_Machine_doKind_183
set_option maxHeartbeats 4000000 in
set_option maxRecDepth 100000 in
theorem wj_Machine_doKind_83 {p : Program} {l : Launch} {e : Env} {s : State} {m : MethodId} {args : Array Value} {below : List Frame} {meth : Method} {c : Code} {D : va_G} {ad : Nat → Nat} {ca : Nat → ClassId} {ads : List Nat} (htr : l.stackTraces = false) (C : xk_C D kx_cl (kx_ty ca) (kw_h ad ca) ads "ModuleHouse$Machine" prog_5_method_31_code 5 none p e s m args meth c) (hne : c.exceptionTable.isEmpty = true) {u' : xk_St} {r : Unit} {b1 : Int32} {b3 : Int32} {u : xk_St} {H : Heap} {locs : List Loc} {ls : Array Slot} (h : jb_Machine_doKind_83  b1 b3 u = some (r, u')) (hP : va_P D kx_cl (kw_h ad ca u) H) (hS : va_S (xk_A ads s.heap.size) s.heap H locs) (hl : lv_has ls 5 [(0, .ref (ad 60)), (1, .int b1), (3, .int b3)]) : W p l e rm_Machine_doKind s m args below meth c H locs 0 0 (xk_MQ below (xk_Qc D kx_cl (kw_h ad ca) ads (xo_v (.inl r)) u') args s (xk_A ads s.heap.size)) (F0 m 83 ls []) := by
  have hx := C.1.1
  have hb := C.1.2.1
  have hok := C.2.2.1
  unfold jb_Machine_doKind_83 at h
  refine lv_aload_n hx hb dd_Machine_doKind_83 rfl (lv_at hl 0 rfl) ?_
  refine gf_h_Machine_60_values C hP dd_Machine_doKind_84 ?_
  refine lv_iload_n hx hb dd_Machine_doKind_87 rfl (lv_at hl 1 rfl) ?_
  refine lv_bipush (v := 29) hx hb dd_Machine_doKind_88 (by decide) ?_
  refine lv_icmp_ne (tgt := 102) hx hb dd_Machine_doKind_90 (by decide) (fun hc => ?_) (fun hc => ?_)
  · have h := xp_f hc h
    refine lv_iload_n hx hb dd_Machine_doKind_102 rfl (lv_at hl 2 rfl) ?_
    refine lv_ldcw (v := 2147483647) hx hb C.1.2.2.2.1 (C.1.2.2.2.2 _ (xk_c7 (w := Jvm.Cond.constant "ModuleHouse$Machine" 392 2147483647) 153 rfl rfl)) dd_Machine_doKind_103 ?_
    refine lv_iand hx hb dd_Machine_doKind_106 ?_
    refine lv_i2l hx hb dd_Machine_doKind_107 rfl ?_
    exact wj_Machine_doKind_108 htr C hne h hP hS (lv_sub hl [] rfl)
  · have h := xp_t hc h
    refine lv_iload_n hx hb dd_Machine_doKind_93 rfl (lv_at hl 2 rfl) ?_
    refine lv_iconst (v := 1) hx hb dd_Machine_doKind_94 (by decide) ?_
    refine lv_ishl hx hb dd_Machine_doKind_95 ?_
    refine lv_iconst (v := 1) hx hb dd_Machine_doKind_96 (by decide) ?_
    refine lv_ishr hx hb dd_Machine_doKind_97 ?_
    refine lv_i2l hx hb dd_Machine_doKind_98 rfl ?_
    refine lv_goto (tgt := 108) hx hb dd_Machine_doKind_99 (by decide) ?_
    exact wj_Machine_doKind_108 htr C hne h hP hS (lv_sub hl [] rfl)
set_option maxHeartbeats 4000000 in
set_option maxRecDepth 100000 in
theorem ct_Machine_doKind {l : Launch} {D : va_G} {ad : Nat → Nat} {ca : Nat → ClassId} {ads : List Nat} (htr : l.stackTraces = false) (hok : xk_ok (kw_h ad ca) ads) {x0 : Int32} {x1 : Int32} {u u' : xk_St} {r : Unit} (h : fm_Machine_doKind x0 x1 u = some (r, u')) :
    ∀ sz, xk_Met l ⟨"ModuleHouse$Machine", "doKind", "(II)V"⟩ (Cond.code ⟨"ModuleHouse$Machine", "doKind", "(II)V"⟩ prog_5_method_31_code 5 none :: xk_gd) rm_Machine_doKind (xk_Pc D kx_cl (kx_ty ca) (kw_h ad ca) ads xk_F sz [.ref (ad 60), .int x0, .int x1] u) (xk_Qc D kx_cl (kw_h ad ca) ads (xo_v (.inl r)) u') (xk_A ads sz) := by
  unfold fm_Machine_doKind at h
  refine xk_con (by decide) htr hok (Nat.le_of_ble_eq_true rfl) (fun p e s m below meth c ls C hne hl hP => ?_)
  have hx := C.1.1
  have hb := C.1.2.1
  have hS : va_S (xk_A ads s.heap.size) s.heap s.heap [] := va_S.rf
  have hl : lv_has ls 5 [(0, .ref (ad 60)), (1, .int x0), (2, .int x1)] := hl
  refine lv_aload_n hx hb dd_Machine_doKind_0 rfl (lv_at hl 0 rfl) ?_
  refine gf_h_Machine_60_values C hP dd_Machine_doKind_1 ?_
  refine gf_h_Machine_61_value C hP dd_Machine_doKind_4 ?_
  refine lv_aload_n hx hb dd_Machine_doKind_7 rfl (lv_at hl 0 rfl) ?_
  refine gf_h_Machine_60_values C hP dd_Machine_doKind_8 ?_
  refine gf_h_Machine_61_top C hP dd_Machine_doKind_11 ?_
  refine lv_iconst (v := 1) hx hb dd_Machine_doKind_14 (by decide) ?_
  refine lv_isub hx hb dd_Machine_doKind_15 ?_
  obtain ⟨hi, h⟩ := xp_g h
  refine al_h_62 C hP hi dd_Machine_doKind_16 ?_
  refine lv_l2i hx hb dd_Machine_doKind_17 rfl ?_
  obtain ⟨a1, ea1, h⟩ := xp_let h
  refine xr_nami ea1 ?_
  refine lv_istore_n (lv' := [(3, .int a1), (0, .ref (ad 60)), (1, .int x0), (2, .int x1)]) hx hb dd_Machine_doKind_18 rfl hl (by decide) rfl (fun ls hl => ?_)
  refine lv_iload_n hx hb dd_Machine_doKind_19 rfl (lv_at hl 2 rfl) ?_
  refine lv_bipush (v := 28) hx hb dd_Machine_doKind_20 (by decide) ?_
  refine lv_icmp_ne (tgt := 54) hx hb dd_Machine_doKind_22 (by decide) (fun hc => ?_) (fun hc => ?_)
  · have h := xp_f hc h
    refine lv_iload_n hx hb dd_Machine_doKind_54 rfl (lv_at hl 2 rfl) ?_
    refine lv_bipush (v := 28) hx hb dd_Machine_doKind_55 (by decide) ?_
    refine lv_icmp_le (tgt := 114) hx hb dd_Machine_doKind_57 (by decide) (fun hc => ?_) (fun hc => ?_)
    · have h := xp_t hc h
      refine lv_iload_n hx hb dd_Machine_doKind_114 rfl (lv_at hl 0 rfl) ?_
      refine lv_if_ne (tgt := 133) hx hb dd_Machine_doKind_115 (by decide) (fun hc => ?_) (fun hc => ?_)
      · have h := xp_f hc h
        refine lv_aload_n hx hb dd_Machine_doKind_133 rfl (lv_at hl 1 rfl) ?_
        refine lv_iload_n hx hb dd_Machine_doKind_134 rfl (lv_at hl 0 rfl) ?_
        refine lv_iload_n hx hb dd_Machine_doKind_135 rfl (lv_at hl 3 rfl) ?_
        obtain ⟨a2, u3, hq, h⟩ := xp_seq h
        refine xk_goesI (xr_V (As := [.int a1, .int x1]) (rest := []) C hP hS (ct_Machine_isOf htr hok hq) kq_Machine_393 60 4 rfl rfl ⟨rfl, rfl, Nat.le_of_ble_eq_true rfl, Nat.le_of_ble_eq_true rfl⟩ ⟨Nat.le_of_ble_eq_true rfl, Nat.le_of_ble_eq_true rfl⟩ hl.1 rfl rfl (Nat.le_of_ble_eq_true rfl) dd_Machine_doKind_136) hS (fun H locs hP hS => ?_)
        clear hq
        exact wj_Machine_doKind_139 htr C hne h hP hS (lv_sub hl [1, 2] rfl)
      · have h := xp_t hc h
        refine lv_iload_n hx hb dd_Machine_doKind_118 rfl (lv_at hl 2 rfl) ?_
        refine lv_iconst (v := 1) hx hb dd_Machine_doKind_119 (by decide) ?_
        refine lv_iand hx hb dd_Machine_doKind_120 ?_
        refine lv_iconst (v := 1) hx hb dd_Machine_doKind_121 (by decide) ?_
        refine lv_icmp_ne (tgt := 129) hx hb dd_Machine_doKind_122 (by decide) (fun hc => ?_) (fun hc => ?_)
        · have h := xp_f hc h
          refine lv_iconst (v := 0) hx hb dd_Machine_doKind_129 (by decide) ?_
          refine lv_goto (tgt := 139) hx hb dd_Machine_doKind_130 (by decide) ?_
          exact wj_Machine_doKind_139 htr C hne h hP hS (lv_sub hl [1, 2] rfl)
        · have h := xp_t hc h
          refine lv_iconst (v := 1) hx hb dd_Machine_doKind_125 (by decide) ?_
          refine lv_goto (tgt := 139) hx hb dd_Machine_doKind_126 (by decide) ?_
          exact wj_Machine_doKind_139 htr C hne h hP hS (lv_sub hl [1, 2] rfl)
    · have h := xp_f hc h
      refine lv_aload_n hx hb dd_Machine_doKind_60 rfl (lv_at hl 1 rfl) ?_
      refine gf_h_Machine_60_values C hP dd_Machine_doKind_61 ?_
      refine lv_dup hx hb dd_Machine_doKind_64 rfl ?_
      refine gf_h_Machine_61_top C hP dd_Machine_doKind_65 ?_
      refine lv_iconst (v := 1) hx hb dd_Machine_doKind_68 (by decide) ?_
      refine lv_isub hx hb dd_Machine_doKind_69 ?_
      refine pf_h_Machine_61_top C hP hS dd_Machine_doKind_70 (fun H locs hP hS => ?_)
      obtain ⟨u7, eu7, h⟩ := xp_let h
      rw [← eu7] at hP
      refine lv_iload_n hx hb dd_Machine_doKind_73 rfl (lv_at hl 0 rfl) ?_
      refine lv_if_ne (tgt := 83) hx hb dd_Machine_doKind_74 (by decide) (fun hc => ?_) (fun hc => ?_)
      · have h := xp_f hc h
        exact wj_Machine_doKind_83 htr C hne h hP hS (lv_sub hl [1, 2, 0] rfl)
      · have h := xp_t hc h
        refine lv_aload_n hx hb dd_Machine_doKind_77 rfl (lv_at hl 1 rfl) ?_
        refine lv_bipush (v := 8) hx hb dd_Machine_doKind_78 (by decide) ?_
        refine pf_h_Machine_60_trap C hP hS dd_Machine_doKind_80 (fun H locs hP hS => ?_)
        obtain ⟨u9, eu9, h⟩ := xp_let h
        rw [← eu9] at hP
        exact wj_Machine_doKind_83 htr C hne h hP hS (lv_sub hl [1, 2, 0] rfl)
  · have h := xp_t hc h
    refine lv_aload_n hx hb dd_Machine_doKind_25 rfl (lv_at hl 1 rfl) ?_
    refine gf_h_Machine_60_values C hP dd_Machine_doKind_26 ?_
    refine lv_dup hx hb dd_Machine_doKind_29 rfl ?_
    refine gf_h_Machine_61_top C hP dd_Machine_doKind_30 ?_
    refine lv_iconst (v := 1) hx hb dd_Machine_doKind_33 (by decide) ?_
    refine lv_isub hx hb dd_Machine_doKind_34 ?_
    refine pf_h_Machine_61_top C hP hS dd_Machine_doKind_35 (fun H locs hP hS => ?_)
    obtain ⟨u10, eu10, h⟩ := xp_let h
    rw [← eu10] at hP
    refine lv_aload_n hx hb dd_Machine_doKind_38 rfl (lv_at hl 1 rfl) ?_
    refine gf_h_Machine_60_values C hP dd_Machine_doKind_39 ?_
    refine lv_iload_n hx hb dd_Machine_doKind_42 rfl (lv_at hl 0 rfl) ?_
    refine lv_ldcw (v := (-2147483648)) hx hb C.1.2.2.2.1 (C.1.2.2.2.2 _ (xk_c7 (w := Jvm.Cond.constant "ModuleHouse$Machine" 391 (-2147483648)) 152 rfl rfl)) dd_Machine_doKind_43 ?_
    refine lv_ior hx hb dd_Machine_doKind_46 ?_
    refine lv_i2l hx hb dd_Machine_doKind_47 rfl ?_
    obtain ⟨rx, u11, hq, h⟩ := xp_seq h
    refine xk_goesV (xr_V (As := [.long ((a1 ||| (-2147483648 : Int32)).toInt64)]) (rest := []) C hP hS (ct_Values_pushReference__h61 htr hok hq) kq_Machine_91 61 10 rfl rfl ⟨rfl, rfl, Nat.le_of_ble_eq_true rfl, Nat.le_of_ble_eq_true rfl⟩ ⟨Nat.le_of_ble_eq_true rfl, Nat.le_of_ble_eq_true rfl⟩ hl.1 rfl rfl (Nat.le_of_ble_eq_true rfl) dd_Machine_doKind_48) hS (fun H locs hP hS => ?_)
    clear hq
    refine lv_goto (tgt := 183) hx hb dd_Machine_doKind_51 (by decide) ?_
    obtain ⟨rfl, rfl⟩ := xp_r h
    exact xr_vret C hP hS dd_Machine_doKind_183
abbrev rm_Values_push__h68 : Room := { frames := 1, cells := 1, slots := 6, locals := 0 }
noncomputable def fm_Values_push__h68 (x0 : Int64) (u : xk_St) : Option (Unit × xk_St) :=
  (if (u.1 32) < 0 ∨ 2000 ≤ (u.1 32).toNatClampNeg then none else xs_let (xs_B u 12 (u.1 32).toNatClampNeg x0) fun u1 => if (u1.1 32) < 0 ∨ 2000 ≤ (u1.1 32).toNatClampNeg then none else xs_let (xs_A u1 39 (u1.1 32).toNatClampNeg (vp_nar .boolean (0 : Int32))) fun u2 => xs_let (xs_I u2 32 ((u2.1 32) + (1 : Int32))) fun u3 => some ((()), u3))
set_option maxHeartbeats 4000000 in
set_option maxRecDepth 100000 in
theorem ct_Values_push__h68 {l : Launch} {D : va_G} {ad : Nat → Nat} {ca : Nat → ClassId} {ads : List Nat} (htr : l.stackTraces = false) (hok : xk_ok (kw_h ad ca) ads) {x0 : Int64} {u u' : xk_St} {r : Unit} (h : fm_Values_push__h68 x0 u = some (r, u')) :
    ∀ sz, xk_Met l ⟨"ModuleHouse$Values", "push", "(J)V"⟩ (Cond.code ⟨"ModuleHouse$Values", "push", "(J)V"⟩ prog_12_method_2_code 3 none :: xk_gd) rm_Values_push__h68 (xk_Pc D kx_cl (kx_ty ca) (kw_h ad ca) ads xk_F sz [.ref (ad 68), .long x0] u) (xk_Qc D kx_cl (kw_h ad ca) ads (xo_v (.inl r)) u') (xk_A ads sz) := by
  unfold fm_Values_push__h68 at h
  refine xk_con (by decide) htr hok (Nat.le_of_ble_eq_true rfl) (fun p e s m below meth c ls C hne hl hP => ?_)
  have hx := C.1.1
  have hb := C.1.2.1
  have hS : va_S (xk_A ads s.heap.size) s.heap s.heap [] := va_S.rf
  have hl : lv_has ls 3 [(0, .ref (ad 68)), (1, .long x0)] := hl
  refine lv_aload_n hx hb dd_Values_push_0 rfl (lv_at hl 0 rfl) ?_
  refine gf_h_Values_68_value C hP dd_Values_push_1 ?_
  refine lv_aload_n hx hb dd_Values_push_4 rfl (lv_at hl 0 rfl) ?_
  refine gf_h_Values_68_top C hP dd_Values_push_5 ?_
  refine lv_lload_n hx hb dd_Values_push_8 rfl (lv_at hl 1 rfl) ?_
  obtain ⟨hi, h⟩ := xp_g h
  refine as_h_69 C hP hS hi dd_Values_push_9 (fun H locs hP hS => ?_)
  obtain ⟨u1, eu1, h⟩ := xp_let h
  rw [← eu1] at hP
  refine lv_aload_n hx hb dd_Values_push_10 rfl (lv_at hl 0 rfl) ?_
  refine gf_h_Values_68_refers C hP dd_Values_push_11 ?_
  refine lv_aload_n hx hb dd_Values_push_14 rfl (lv_at hl 0 rfl) ?_
  refine gf_h_Values_68_top C hP dd_Values_push_15 ?_
  refine lv_iconst (v := 0) hx hb dd_Values_push_18 (by decide) ?_
  obtain ⟨hi, h⟩ := xp_g h
  refine as_h_70 C hP hS hi dd_Values_push_19 (fun H locs hP hS => ?_)
  obtain ⟨u2, eu2, h⟩ := xp_let h
  rw [← eu2] at hP
  refine lv_aload_n hx hb dd_Values_push_20 rfl (lv_at hl 0 rfl) ?_
  refine lv_dup hx hb dd_Values_push_21 rfl ?_
  refine gf_h_Values_68_top C hP dd_Values_push_22 ?_
  refine lv_iconst (v := 1) hx hb dd_Values_push_25 (by decide) ?_
  refine lv_iadd hx hb dd_Values_push_26 ?_
  refine pf_h_Values_68_top C hP hS dd_Values_push_27 (fun H locs hP hS => ?_)
  obtain ⟨u3, eu3, h⟩ := xp_let h
  rw [← eu3] at hP
  obtain ⟨rfl, rfl⟩ := xp_r h
  exact xr_vret C hP hS dd_Values_push_30
abbrev rm_Arrays_rangeCheck__h : Room := { frames := 6, cells := 1, slots := 6, locals := 100 }
noncomputable def fm_Arrays_rangeCheck__h (x0 : Int32) (x1 : Int32) (x2 : Int32) (u : xk_St) : Option (Unit × xk_St) :=
  if x1 ≤ x2 then (if (0 : Int32) ≤ x1 then (if x2 ≤ x0 then (some ((()), u)) else (none)) else (none)) else (none)
set_option maxHeartbeats 4000000 in
set_option maxRecDepth 100000 in
theorem ct_Arrays_rangeCheck__h {l : Launch} {D : va_G} {ad : Nat → Nat} {ca : Nat → ClassId} {ads : List Nat} (htr : l.stackTraces = false) (hok : xk_ok (kw_h ad ca) ads) {x0 : Int32} {x1 : Int32} {x2 : Int32} {u u' : xk_St} {r : Unit} (h : fm_Arrays_rangeCheck__h x0 x1 x2 u = some (r, u')) :
    ∀ sz, xk_Met l ⟨"java/util/Arrays", "rangeCheck", "(III)V"⟩ (Cond.code ⟨"java/util/Arrays", "rangeCheck", "(III)V"⟩ prog_31_method_30_code 3 none :: xk_gd) rm_Arrays_rangeCheck__h (xk_Pc D kx_cl (kx_ty ca) (kw_h ad ca) ads xk_F sz [.int x0, .int x1, .int x2] u) (xk_Qc D kx_cl (kw_h ad ca) ads (xo_v (.inl r)) u') (xk_A ads sz) := by
  unfold fm_Arrays_rangeCheck__h at h
  refine xk_con (by decide) htr hok (Nat.le_of_ble_eq_true rfl) (fun p e s m below meth c ls C hne hl hP => ?_)
  have hx := C.1.1
  have hb := C.1.2.1
  have hS : va_S (xk_A ads s.heap.size) s.heap s.heap [] := va_S.rf
  have hl : lv_has ls 3 [(0, .int x0), (1, .int x1), (2, .int x2)] := hl
  refine lv_iload_n hx hb dd_Arrays_rangeCheck_0 rfl (lv_at hl 1 rfl) ?_
  refine lv_iload_n hx hb dd_Arrays_rangeCheck_1 rfl (lv_at hl 2 rfl) ?_
  refine lv_icmp_le (tgt := 46) hx hb dd_Arrays_rangeCheck_2 (by decide) (fun hc => ?_) (fun hc => ?_)
  · have h := xp_t hc h
    refine lv_iload_n hx hb dd_Arrays_rangeCheck_46 rfl (lv_at hl 1 rfl) ?_
    refine lv_if_ge (tgt := 59) hx hb dd_Arrays_rangeCheck_47 (by decide) (fun hc => ?_) (fun hc => ?_)
    · have h := xp_t hc h
      refine lv_iload_n hx hb dd_Arrays_rangeCheck_59 rfl (lv_at hl 2 rfl) ?_
      refine lv_iload_n hx hb dd_Arrays_rangeCheck_60 rfl (lv_at hl 0 rfl) ?_
      refine lv_icmp_le (tgt := 73) hx hb dd_Arrays_rangeCheck_61 (by decide) (fun hc => ?_) (fun hc => ?_)
      · have h := xp_t hc h
        obtain ⟨rfl, rfl⟩ := xp_r h
        exact xr_vret C hP hS dd_Arrays_rangeCheck_73
      · have h := xp_f hc h
        cases h
    · have h := xp_f hc h
      cases h
  · have h := xp_f hc h
    cases h
abbrev rm_Arrays_fill_AJIIJ__h69 : Room := { frames := 7, cells := 1, slots := 6, locals := 122 }
noncomputable def jb_Arrays_fill_AJIIJ__h69_10 (fu : Nat) : Nat → Int32 → Int64 → Int32 → xk_St → Option (Unit × xk_St)
  | 0 => fun _ _ _ _ => none
  | n + 1 => fun b2 b3 b5 u =>
    xs_let (jb_Arrays_fill_AJIIJ__h69_10 fu  n) fun k10 =>
    if b2 ≤ b5 then (some ((()), u)) else ((if b5 < 0 ∨ 2000 ≤ b5.toNatClampNeg then none else xs_let (xs_B u 12 b5.toNatClampNeg b3) fun u2 => xs_let (b5 + (1 : Int32)) fun a3 => k10 b2 b3 a3 u2))
noncomputable def fm_Arrays_fill_AJIIJ__h69 (fu : Nat) (x1 : Int32) (x2 : Int32) (x3 : Int64) (u : xk_St) : Option (Unit × xk_St) :=
  (xs_seq (fm_Arrays_rangeCheck__h (2000 : Int32) x1 x2 u) fun _ u1 => jb_Arrays_fill_AJIIJ__h69_10 fu fu x2 x3 x1 u1)
set_option maxHeartbeats 4000000 in
set_option maxRecDepth 100000 in
theorem wj_Arrays_fill_AJIIJ__h69_10 {p : Program} {l : Launch} {e : Env} {s : State} {m : MethodId} {args : Array Value} {below : List Frame} {meth : Method} {c : Code} {D : va_G} {ad : Nat → Nat} {ca : Nat → ClassId} {ads : List Nat} {fu : Nat} (htr : l.stackTraces = false) (C : xk_C D kx_cl (kx_ty ca) (kw_h ad ca) ads "java/util/Arrays" prog_31_method_102_code 6 none p e s m args meth c) (hne : c.exceptionTable.isEmpty = true) {u' : xk_St} {r : Unit} : ∀ {n : Nat} {b2 : Int32} {b3 : Int64} {b5 : Int32} {u : xk_St} {H : Heap} {locs : List Loc} {ls : Array Slot} (h : jb_Arrays_fill_AJIIJ__h69_10 fu  n b2 b3 b5 u = some (r, u')) (hP : va_P D kx_cl (kw_h ad ca u) H) (hS : va_S (xk_A ads s.heap.size) s.heap H locs) (hl : lv_has ls 6 [(0, .ref (ad 69)), (2, .int b2), (3, .long b3), (5, .int b5)]), W p l e rm_Arrays_fill_AJIIJ__h69 s m args below meth c H locs 0 0 (xk_MQ below (xk_Qc D kx_cl (kw_h ad ca) ads (xo_v (.inl r)) u') args s (xk_A ads s.heap.size)) (F0 m 10 ls []) := by
  intro n
  have hx := C.1.1
  have hb := C.1.2.1
  have hok := C.2.2.1
  induction n with
  | zero =>
    intro _ _ _ u H locs ls h
    have h : none = some (r, u') := h
    cases h
  | succ n ih =>
    intro b2 b3 b5 u H locs ls h hP hS hl
    unfold jb_Arrays_fill_AJIIJ__h69_10 at h
    obtain ⟨k10, ek10, h⟩ := xp_let h
    have hk10 : ∀ (c0 : Int32) (c1 : Int64) (c2 : Int32) (u : xk_St) (H : Heap) (locs : List Loc) (ls : Array Slot), k10 c0 c1 c2 u = some (r, u') → va_P D kx_cl (kw_h ad ca u) H → va_S (xk_A ads s.heap.size) s.heap H locs → lv_has ls 6 [(0, .ref (ad 69)), (2, .int c0), (3, .long c1), (5, .int c2)] → W p l e rm_Arrays_fill_AJIIJ__h69 s m args below meth c H locs 0 0 (xk_MQ below (xk_Qc D kx_cl (kw_h ad ca) ads (xo_v (.inl r)) u') args s (xk_A ads s.heap.size)) (F0 m 10 ls []) := by
      intro c0 c1 c2 u H locs ls h hP hS hl
      subst ek10
      exact ih h hP hS hl
    clear ih ek10
    refine lv_iload hx hb dd_Arrays_fill_AJIIJ_10 (lv_at hl 3 rfl) ?_
    refine lv_iload_n hx hb dd_Arrays_fill_AJIIJ_12 rfl (lv_at hl 1 rfl) ?_
    refine lv_icmp_ge (tgt := 27) hx hb dd_Arrays_fill_AJIIJ_13 (by decide) (fun hc => ?_) (fun hc => ?_)
    · have h := xp_t hc h
      obtain ⟨rfl, rfl⟩ := xp_r h
      exact xr_vret C hP hS dd_Arrays_fill_AJIIJ_27
    · have h := xp_f hc h
      refine lv_aload_n hx hb dd_Arrays_fill_AJIIJ_16 rfl (lv_at hl 0 rfl) ?_
      refine lv_iload hx hb dd_Arrays_fill_AJIIJ_17 (lv_at hl 3 rfl) ?_
      refine lv_lload_n hx hb dd_Arrays_fill_AJIIJ_19 rfl (lv_at hl 2 rfl) ?_
      obtain ⟨hi, h⟩ := xp_g h
      refine as_h_69 C hP hS hi dd_Arrays_fill_AJIIJ_20 (fun H locs hP hS => ?_)
      obtain ⟨u2, eu2, h⟩ := xp_let h
      rw [← eu2] at hP
      obtain ⟨a3, ea3, h⟩ := xp_let h
      refine lv_iinc (v := a3) (lv' := [(5, .int a3), (0, .ref (ad 69)), (2, .int b2), (3, .long b3)]) hx hb dd_Arrays_fill_AJIIJ_21 hl (k := 3) rfl (by rw [ea3]; first | rfl | decide) (by decide) rfl (fun ls hl => ?_)
      refine lv_goto (tgt := 10) hx hb dd_Arrays_fill_AJIIJ_24 (by decide) ?_
      exact hk10 b2 b3 a3 u2 _ _ _ h hP hS (lv_sub hl [1, 2, 3, 0] rfl)
set_option maxHeartbeats 4000000 in
set_option maxRecDepth 100000 in
theorem ct_Arrays_fill_AJIIJ__h69 {l : Launch} {D : va_G} {ad : Nat → Nat} {ca : Nat → ClassId} {ads : List Nat} (htr : l.stackTraces = false) (hok : xk_ok (kw_h ad ca) ads) {fu : Nat} {x1 : Int32} {x2 : Int32} {x3 : Int64} {u u' : xk_St} {r : Unit} (h : fm_Arrays_fill_AJIIJ__h69 fu x1 x2 x3 u = some (r, u')) :
    ∀ sz, xk_Met l ⟨"java/util/Arrays", "fill", "([JIIJ)V"⟩ (Cond.code ⟨"java/util/Arrays", "fill", "([JIIJ)V"⟩ prog_31_method_102_code 6 none :: xk_gd) rm_Arrays_fill_AJIIJ__h69 (xk_Pc D kx_cl (kx_ty ca) (kw_h ad ca) ads xk_F sz [.ref (ad 69), .int x1, .int x2, .long x3] u) (xk_Qc D kx_cl (kw_h ad ca) ads (xo_v (.inl r)) u') (xk_A ads sz) := by
  unfold fm_Arrays_fill_AJIIJ__h69 at h
  refine xk_con (by decide) htr hok (Nat.le_of_ble_eq_true rfl) (fun p e s m below meth c ls C hne hl hP => ?_)
  have hx := C.1.1
  have hb := C.1.2.1
  have hS : va_S (xk_A ads s.heap.size) s.heap s.heap [] := va_S.rf
  have hl : lv_has ls 6 [(0, .ref (ad 69)), (1, .int x1), (2, .int x2), (3, .long x3)] := hl
  refine lv_aload_n hx hb dd_Arrays_fill_AJIIJ_0 rfl (lv_at hl 0 rfl) ?_
  refine va_alen (v := 2000) hx hb C.2.1 hP 69 2 rfl rfl rfl dd_Arrays_fill_AJIIJ_1 ?_
  refine lv_iload_n hx hb dd_Arrays_fill_AJIIJ_2 rfl (lv_at hl 1 rfl) ?_
  refine lv_iload_n hx hb dd_Arrays_fill_AJIIJ_3 rfl (lv_at hl 2 rfl) ?_
  obtain ⟨rx, u1, hq, h⟩ := xp_seq h
  refine xk_goesV (xr_S (As := [.int (2000 : Int32), .int x1, .int x2]) (rest := []) C hP hS (ct_Arrays_rangeCheck__h htr hok hq) kq_Arrays_13 ⟨rfl, rfl, Nat.le_of_ble_eq_true rfl, Nat.le_of_ble_eq_true rfl⟩ ⟨Nat.le_of_ble_eq_true rfl, Nat.le_of_ble_eq_true rfl⟩ hl.1 rfl rfl (Nat.le_of_ble_eq_true rfl) dd_Arrays_fill_AJIIJ_4) hS (fun H locs hP hS => ?_)
  clear hq
  refine lv_iload_n hx hb dd_Arrays_fill_AJIIJ_7 rfl (lv_at hl 1 rfl) ?_
  refine lv_istore (lv' := [(5, .int x1), (0, .ref (ad 69)), (1, .int x1), (2, .int x2), (3, .long x3)]) hx hb dd_Arrays_fill_AJIIJ_8 hl (by decide) rfl (fun ls hl => ?_)
  exact wj_Arrays_fill_AJIIJ__h69_10 htr C hne h hP hS (lv_sub hl [1, 3, 4, 0] rfl)
abbrev rm_Values_pushZeros__h68 : Room := { frames := 8, cells := 1, slots := 6, locals := 147 }
noncomputable def jb_Values_pushZeros__h68_20 (fu : Nat) : Nat → Int32 → Int32 → xk_St → Option (Unit × xk_St)
  | 0 => fun _ _ _ => none
  | n + 1 => fun b1 b2 u =>
    xs_let (jb_Values_pushZeros__h68_20 fu  n) fun k20 =>
    if b1 ≤ b2 then ((xs_let (xs_I u 32 ((u.1 32) + b1)) fun u2 => some ((()), u2))) else ((if ((u.1 32) + b2) < 0 ∨ 2000 ≤ ((u.1 32) + b2).toNatClampNeg then none else xs_let (xs_A u 39 ((u.1 32) + b2).toNatClampNeg (vp_nar .boolean (0 : Int32))) fun u3 => xs_let (b2 + (1 : Int32)) fun a4 => k20 b1 a4 u3))
noncomputable def fm_Values_pushZeros__h68 (fu : Nat) (x0 : Int32) (u : xk_St) : Option (Unit × xk_St) :=
  (xs_seq (fm_Arrays_fill_AJIIJ__h69 fu (u.1 32) ((u.1 32) + x0) (0 : Int64) u) fun _ u1 => jb_Values_pushZeros__h68_20 fu fu x0 (0 : Int32) u1)
set_option maxHeartbeats 4000000 in
set_option maxRecDepth 100000 in
theorem wj_Values_pushZeros__h68_20 {p : Program} {l : Launch} {e : Env} {s : State} {m : MethodId} {args : Array Value} {below : List Frame} {meth : Method} {c : Code} {D : va_G} {ad : Nat → Nat} {ca : Nat → ClassId} {ads : List Nat} {fu : Nat} (htr : l.stackTraces = false) (C : xk_C D kx_cl (kx_ty ca) (kw_h ad ca) ads "ModuleHouse$Values" prog_12_method_8_code 3 none p e s m args meth c) (hne : c.exceptionTable.isEmpty = true) {u' : xk_St} {r : Unit} : ∀ {n : Nat} {b1 : Int32} {b2 : Int32} {u : xk_St} {H : Heap} {locs : List Loc} {ls : Array Slot} (h : jb_Values_pushZeros__h68_20 fu  n b1 b2 u = some (r, u')) (hP : va_P D kx_cl (kw_h ad ca u) H) (hS : va_S (xk_A ads s.heap.size) s.heap H locs) (hl : lv_has ls 3 [(0, .ref (ad 68)), (1, .int b1), (2, .int b2)]), W p l e rm_Values_pushZeros__h68 s m args below meth c H locs 0 0 (xk_MQ below (xk_Qc D kx_cl (kw_h ad ca) ads (xo_v (.inl r)) u') args s (xk_A ads s.heap.size)) (F0 m 20 ls []) := by
  intro n
  have hx := C.1.1
  have hb := C.1.2.1
  have hok := C.2.2.1
  induction n with
  | zero =>
    intro _ _ u H locs ls h
    have h : none = some (r, u') := h
    cases h
  | succ n ih =>
    intro b1 b2 u H locs ls h hP hS hl
    unfold jb_Values_pushZeros__h68_20 at h
    obtain ⟨k20, ek20, h⟩ := xp_let h
    have hk20 : ∀ (c0 : Int32) (c1 : Int32) (u : xk_St) (H : Heap) (locs : List Loc) (ls : Array Slot), k20 c0 c1 u = some (r, u') → va_P D kx_cl (kw_h ad ca u) H → va_S (xk_A ads s.heap.size) s.heap H locs → lv_has ls 3 [(0, .ref (ad 68)), (1, .int c0), (2, .int c1)] → W p l e rm_Values_pushZeros__h68 s m args below meth c H locs 0 0 (xk_MQ below (xk_Qc D kx_cl (kw_h ad ca) ads (xo_v (.inl r)) u') args s (xk_A ads s.heap.size)) (F0 m 20 ls []) := by
      intro c0 c1 u H locs ls h hP hS hl
      subst ek20
      exact ih h hP hS hl
    clear ih ek20
    refine lv_iload_n hx hb dd_Values_pushZeros_20 rfl (lv_at hl 2 rfl) ?_
    refine lv_iload_n hx hb dd_Values_pushZeros_21 rfl (lv_at hl 1 rfl) ?_
    refine lv_icmp_ge (tgt := 43) hx hb dd_Values_pushZeros_22 (by decide) (fun hc => ?_) (fun hc => ?_)
    · have h := xp_t hc h
      refine lv_aload_n hx hb dd_Values_pushZeros_43 rfl (lv_at hl 0 rfl) ?_
      refine lv_dup hx hb dd_Values_pushZeros_44 rfl ?_
      refine gf_h_Values_68_top C hP dd_Values_pushZeros_45 ?_
      refine lv_iload_n hx hb dd_Values_pushZeros_48 rfl (lv_at hl 1 rfl) ?_
      refine lv_iadd hx hb dd_Values_pushZeros_49 ?_
      refine pf_h_Values_68_top C hP hS dd_Values_pushZeros_50 (fun H locs hP hS => ?_)
      obtain ⟨u2, eu2, h⟩ := xp_let h
      rw [← eu2] at hP
      obtain ⟨rfl, rfl⟩ := xp_r h
      exact xr_vret C hP hS dd_Values_pushZeros_53
    · have h := xp_f hc h
      refine lv_aload_n hx hb dd_Values_pushZeros_25 rfl (lv_at hl 0 rfl) ?_
      refine gf_h_Values_68_refers C hP dd_Values_pushZeros_26 ?_
      refine lv_aload_n hx hb dd_Values_pushZeros_29 rfl (lv_at hl 0 rfl) ?_
      refine gf_h_Values_68_top C hP dd_Values_pushZeros_30 ?_
      refine lv_iload_n hx hb dd_Values_pushZeros_33 rfl (lv_at hl 2 rfl) ?_
      refine lv_iadd hx hb dd_Values_pushZeros_34 ?_
      refine lv_iconst (v := 0) hx hb dd_Values_pushZeros_35 (by decide) ?_
      obtain ⟨hi, h⟩ := xp_g h
      refine as_h_70 C hP hS hi dd_Values_pushZeros_36 (fun H locs hP hS => ?_)
      obtain ⟨u3, eu3, h⟩ := xp_let h
      rw [← eu3] at hP
      obtain ⟨a4, ea4, h⟩ := xp_let h
      refine lv_iinc (v := a4) (lv' := [(2, .int a4), (0, .ref (ad 68)), (1, .int b1)]) hx hb dd_Values_pushZeros_37 hl (k := 2) rfl (by rw [ea4]; first | rfl | decide) (by decide) rfl (fun ls hl => ?_)
      refine lv_goto (tgt := 20) hx hb dd_Values_pushZeros_40 (by decide) ?_
      exact hk20 b1 a4 u3 _ _ _ h hP hS (lv_sub hl [1, 2, 0] rfl)
set_option maxHeartbeats 4000000 in
set_option maxRecDepth 100000 in
theorem ct_Values_pushZeros__h68 {l : Launch} {D : va_G} {ad : Nat → Nat} {ca : Nat → ClassId} {ads : List Nat} (htr : l.stackTraces = false) (hok : xk_ok (kw_h ad ca) ads) {fu : Nat} {x0 : Int32} {u u' : xk_St} {r : Unit} (h : fm_Values_pushZeros__h68 fu x0 u = some (r, u')) :
    ∀ sz, xk_Met l ⟨"ModuleHouse$Values", "pushZeros", "(I)V"⟩ (Cond.code ⟨"ModuleHouse$Values", "pushZeros", "(I)V"⟩ prog_12_method_8_code 3 none :: xk_gd) rm_Values_pushZeros__h68 (xk_Pc D kx_cl (kx_ty ca) (kw_h ad ca) ads xk_F sz [.ref (ad 68), .int x0] u) (xk_Qc D kx_cl (kw_h ad ca) ads (xo_v (.inl r)) u') (xk_A ads sz) := by
  unfold fm_Values_pushZeros__h68 at h
  refine xk_con (by decide) htr hok (Nat.le_of_ble_eq_true rfl) (fun p e s m below meth c ls C hne hl hP => ?_)
  have hx := C.1.1
  have hb := C.1.2.1
  have hS : va_S (xk_A ads s.heap.size) s.heap s.heap [] := va_S.rf
  have hl : lv_has ls 3 [(0, .ref (ad 68)), (1, .int x0)] := hl
  refine lv_aload_n hx hb dd_Values_pushZeros_0 rfl (lv_at hl 0 rfl) ?_
  refine gf_h_Values_68_value C hP dd_Values_pushZeros_1 ?_
  refine lv_aload_n hx hb dd_Values_pushZeros_4 rfl (lv_at hl 0 rfl) ?_
  refine gf_h_Values_68_top C hP dd_Values_pushZeros_5 ?_
  refine lv_aload_n hx hb dd_Values_pushZeros_8 rfl (lv_at hl 0 rfl) ?_
  refine gf_h_Values_68_top C hP dd_Values_pushZeros_9 ?_
  refine lv_iload_n hx hb dd_Values_pushZeros_12 rfl (lv_at hl 1 rfl) ?_
  refine lv_iadd hx hb dd_Values_pushZeros_13 ?_
  refine lv_lconst (v := 0) hx hb dd_Values_pushZeros_14 (by decide) ?_
  obtain ⟨rx, u1, hq, h⟩ := xp_seq h
  refine xk_goesV (xr_S (As := [.ref (ad 69), .int (u.1 32), .int ((u.1 32) + x0), .long (0 : Int64)]) (rest := []) C hP hS (ct_Arrays_fill_AJIIJ__h69 htr hok hq) kq_Values_29 ⟨rfl, rfl, Nat.le_of_ble_eq_true rfl, Nat.le_of_ble_eq_true rfl⟩ ⟨Nat.le_of_ble_eq_true rfl, Nat.le_of_ble_eq_true rfl⟩ hl.1 rfl rfl (Nat.le_of_ble_eq_true rfl) dd_Values_pushZeros_15) hS (fun H locs hP hS => ?_)
  clear hq
  refine lv_iconst (v := 0) hx hb dd_Values_pushZeros_18 (by decide) ?_
  refine lv_istore_n (lv' := [(2, .int (0 : Int32)), (0, .ref (ad 68)), (1, .int x0)]) hx hb dd_Values_pushZeros_19 rfl hl (by decide) rfl (fun ls hl => ?_)
  exact wj_Values_pushZeros__h68_20 htr C hne h hP hS (lv_sub hl [1, 2, 0] rfl)
abbrev rm_Heap_find : Room := { frames := 1, cells := 1, slots := 6, locals := 0 }
noncomputable def jb_Heap_find_88 (fu : Nat) (k3 : Int32 → Int32 → xk_St → Option (Unit × xk_St)) (b3 : Int32) (b4 : Int32) (u : xk_St) : Option (Unit × xk_St) :=
  (xs_let (b4 + (1 : Int32)) fun a1 => k3 b3 a1 u)
noncomputable def jb_Heap_find_3 (fu : Nat) : Nat → Int32 → Int32 → xk_St → Option (Unit × xk_St)
  | 0 => fun _ _ _ => none
  | n + 1 => fun b3 b4 u =>
    xs_let (jb_Heap_find_3 fu  n) fun k3 =>
    if b3 ≤ b4 then (some ((()), u)) else ((if b4 < 0 ∨ 18000 ≤ b4.toNatClampNeg then none else if (u.2.2.1 37 b4.toNatClampNeg) = (0 : Int32) then (jb_Heap_find_88 fu k3 b3 b4 u) else ((if b4 < 0 ∨ 18000 ≤ b4.toNatClampNeg then none else if (u.2.2.2 10 b4.toNatClampNeg) ≤ (0 : Int64) then (jb_Heap_find_88 fu k3 b3 b4 u) else ((if b4 < 0 ∨ 18000 ≤ b4.toNatClampNeg then none else if ((u.2.2.2 10 b4.toNatClampNeg).toInt32) < 0 ∨ 2001 ≤ ((u.2.2.2 10 b4.toNatClampNeg).toInt32).toNatClampNeg then none else if (u.2.2.1 43 ((u.2.2.2 10 b4.toNatClampNeg).toInt32).toNatClampNeg) = (0 : Int32) then ((if b4 < 0 ∨ 18000 ≤ b4.toNatClampNeg then none else if ((u.2.2.2 10 b4.toNatClampNeg).toInt32) < 0 ∨ 2001 ≤ ((u.2.2.2 10 b4.toNatClampNeg).toInt32).toNatClampNeg then none else xs_let (xs_A u 43 ((u.2.2.2 10 b4.toNatClampNeg).toInt32).toNatClampNeg (vp_nar .boolean (1 : Int32))) fun u2 => if b4 < 0 ∨ 18000 ≤ b4.toNatClampNeg then none else if (u2.1 31) < 0 ∨ 2000 ≤ (u2.1 31).toNatClampNeg then none else xs_let (xs_A u2 45 (u2.1 31).toNatClampNeg ((u2.2.2.2 10 b4.toNatClampNeg).toInt32)) fun u3 => xs_let (xs_I u3 31 ((u3.1 31) + (1 : Int32))) fun u4 => jb_Heap_find_88 fu k3 b3 b4 u4)) else (jb_Heap_find_88 fu k3 b3 b4 u)))))))
noncomputable def fm_Heap_find (fu : Nat) (x1 : Int32) (x2 : Int32) (u : xk_St) : Option (Unit × xk_St) :=
  jb_Heap_find_3 fu fu x2 x1 u
set_option maxHeartbeats 4000000 in
set_option maxRecDepth 100000 in
theorem wj_Heap_find_88 {p : Program} {l : Launch} {e : Env} {s : State} {m : MethodId} {args : Array Value} {below : List Frame} {meth : Method} {c : Code} {D : va_G} {ad : Nat → Nat} {ca : Nat → ClassId} {ads : List Nat} {fu : Nat} (htr : l.stackTraces = false) (C : xk_C D kx_cl (kx_ty ca) (kw_h ad ca) ads "ModuleHouse$Heap" prog_4_method_6_code 5 none p e s m args meth c) (hne : c.exceptionTable.isEmpty = true) {u' : xk_St} {r : Unit} {k3 : Int32 → Int32 → xk_St → Option (Unit × xk_St)} (hk3 : ∀ (c0 : Int32) (c1 : Int32) (u : xk_St) (H : Heap) (locs : List Loc) (ls : Array Slot), k3 c0 c1 u = some (r, u') → va_P D kx_cl (kw_h ad ca u) H → va_S (xk_A ads s.heap.size) s.heap H locs → lv_has ls 5 [(0, .ref (ad 67)), (1, .ref (ad 61)), (3, .int c0), (4, .int c1)] → W p l e rm_Heap_find s m args below meth c H locs 0 0 (xk_MQ below (xk_Qc D kx_cl (kw_h ad ca) ads (xo_v (.inl r)) u') args s (xk_A ads s.heap.size)) (F0 m 3 ls [])) {b3 : Int32} {b4 : Int32} {u : xk_St} {H : Heap} {locs : List Loc} {ls : Array Slot} (h : jb_Heap_find_88 fu k3 b3 b4 u = some (r, u')) (hP : va_P D kx_cl (kw_h ad ca u) H) (hS : va_S (xk_A ads s.heap.size) s.heap H locs) (hl : lv_has ls 5 [(0, .ref (ad 67)), (1, .ref (ad 61)), (3, .int b3), (4, .int b4)]) : W p l e rm_Heap_find s m args below meth c H locs 0 0 (xk_MQ below (xk_Qc D kx_cl (kw_h ad ca) ads (xo_v (.inl r)) u') args s (xk_A ads s.heap.size)) (F0 m 88 ls []) := by
  have hx := C.1.1
  have hb := C.1.2.1
  have hok := C.2.2.1
  unfold jb_Heap_find_88 at h
  obtain ⟨a1, ea1, h⟩ := xp_let h
  refine lv_iinc (v := a1) (lv' := [(4, .int a1), (0, .ref (ad 67)), (1, .ref (ad 61)), (3, .int b3)]) hx hb dd_Heap_find_88 hl (k := 3) rfl (by rw [ea1]; first | rfl | decide) (by decide) rfl (fun ls hl => ?_)
  refine lv_goto (tgt := 3) hx hb dd_Heap_find_91 (by decide) ?_
  exact hk3 b3 a1 u _ _ _ h hP hS (lv_sub hl [1, 2, 3, 0] rfl)
set_option maxHeartbeats 4000000 in
set_option maxRecDepth 100000 in
theorem wj_Heap_find_3 {p : Program} {l : Launch} {e : Env} {s : State} {m : MethodId} {args : Array Value} {below : List Frame} {meth : Method} {c : Code} {D : va_G} {ad : Nat → Nat} {ca : Nat → ClassId} {ads : List Nat} {fu : Nat} (htr : l.stackTraces = false) (C : xk_C D kx_cl (kx_ty ca) (kw_h ad ca) ads "ModuleHouse$Heap" prog_4_method_6_code 5 none p e s m args meth c) (hne : c.exceptionTable.isEmpty = true) {u' : xk_St} {r : Unit} : ∀ {n : Nat} {b3 : Int32} {b4 : Int32} {u : xk_St} {H : Heap} {locs : List Loc} {ls : Array Slot} (h : jb_Heap_find_3 fu  n b3 b4 u = some (r, u')) (hP : va_P D kx_cl (kw_h ad ca u) H) (hS : va_S (xk_A ads s.heap.size) s.heap H locs) (hl : lv_has ls 5 [(0, .ref (ad 67)), (1, .ref (ad 61)), (3, .int b3), (4, .int b4)]), W p l e rm_Heap_find s m args below meth c H locs 0 0 (xk_MQ below (xk_Qc D kx_cl (kw_h ad ca) ads (xo_v (.inl r)) u') args s (xk_A ads s.heap.size)) (F0 m 3 ls []) := by
  intro n
  have hx := C.1.1
  have hb := C.1.2.1
  have hok := C.2.2.1
  induction n with
  | zero =>
    intro _ _ u H locs ls h
    have h : none = some (r, u') := h
    cases h
  | succ n ih =>
    intro b3 b4 u H locs ls h hP hS hl
    unfold jb_Heap_find_3 at h
    obtain ⟨k3, ek3, h⟩ := xp_let h
    have hk3 : ∀ (c0 : Int32) (c1 : Int32) (u : xk_St) (H : Heap) (locs : List Loc) (ls : Array Slot), k3 c0 c1 u = some (r, u') → va_P D kx_cl (kw_h ad ca u) H → va_S (xk_A ads s.heap.size) s.heap H locs → lv_has ls 5 [(0, .ref (ad 67)), (1, .ref (ad 61)), (3, .int c0), (4, .int c1)] → W p l e rm_Heap_find s m args below meth c H locs 0 0 (xk_MQ below (xk_Qc D kx_cl (kw_h ad ca) ads (xo_v (.inl r)) u') args s (xk_A ads s.heap.size)) (F0 m 3 ls []) := by
      intro c0 c1 u H locs ls h hP hS hl
      subst ek3
      exact ih h hP hS hl
    clear ih ek3
    refine lv_iload hx hb dd_Heap_find_3 (lv_at hl 3 rfl) ?_
    refine lv_iload_n hx hb dd_Heap_find_5 rfl (lv_at hl 2 rfl) ?_
    refine lv_icmp_ge (tgt := 94) hx hb dd_Heap_find_6 (by decide) (fun hc => ?_) (fun hc => ?_)
    · have h := xp_t hc h
      obtain ⟨rfl, rfl⟩ := xp_r h
      exact xr_vret C hP hS dd_Heap_find_94
    · have h := xp_f hc h
      refine lv_aload_n hx hb dd_Heap_find_9 rfl (lv_at hl 1 rfl) ?_
      refine gf_h_Heap_61_refers C hP dd_Heap_find_10 ?_
      refine lv_iload hx hb dd_Heap_find_13 (lv_at hl 3 rfl) ?_
      obtain ⟨hi, h⟩ := xp_g h
      refine al_h_63 C hP hi dd_Heap_find_15 ?_
      refine lv_if_eq (tgt := 88) hx hb dd_Heap_find_16 (by decide) (fun hc => ?_) (fun hc => ?_)
      · have h := xp_t hc h
        exact wj_Heap_find_88 htr C hne hk3 h hP hS (lv_sub hl [0, 1, 2, 3] rfl)
      · have h := xp_f hc h
        refine lv_aload_n hx hb dd_Heap_find_19 rfl (lv_at hl 1 rfl) ?_
        refine gf_h_Heap_61_value C hP dd_Heap_find_20 ?_
        refine lv_iload hx hb dd_Heap_find_23 (lv_at hl 3 rfl) ?_
        obtain ⟨hi, h⟩ := xp_g h
        refine al_h_62 C hP hi dd_Heap_find_25 ?_
        refine lv_lconst (v := 0) hx hb dd_Heap_find_26 (by decide) ?_
        refine xr_lc_le (tgt := 88) hx hb dd_Heap_find_27 dd_Heap_find_28 (by decide) (fun hc => ?_) (fun hc => ?_)
        · have h := xp_t hc h
          exact wj_Heap_find_88 htr C hne hk3 h hP hS (lv_sub hl [0, 1, 2, 3] rfl)
        · have h := xp_f hc h
          refine lv_aload_n hx hb dd_Heap_find_31 rfl (lv_at hl 0 rfl) ?_
          refine gf_h_Heap_67_lives C hP dd_Heap_find_32 ?_
          refine lv_aload_n hx hb dd_Heap_find_35 rfl (lv_at hl 1 rfl) ?_
          refine gf_h_Heap_61_value C hP dd_Heap_find_36 ?_
          refine lv_iload hx hb dd_Heap_find_39 (lv_at hl 3 rfl) ?_
          obtain ⟨hi, h⟩ := xp_g h
          refine al_h_62 C hP hi dd_Heap_find_41 ?_
          refine lv_l2i hx hb dd_Heap_find_42 rfl ?_
          obtain ⟨hi, h⟩ := xp_g h
          refine al_h_74 C hP hi dd_Heap_find_43 ?_
          refine lv_if_ne (tgt := 88) hx hb dd_Heap_find_44 (by decide) (fun hc => ?_) (fun hc => ?_)
          · have h := xp_f hc h
            exact wj_Heap_find_88 htr C hne hk3 h hP hS (lv_sub hl [0, 1, 2, 3] rfl)
          · have h := xp_t hc h
            refine lv_aload_n hx hb dd_Heap_find_47 rfl (lv_at hl 0 rfl) ?_
            refine gf_h_Heap_67_lives C hP dd_Heap_find_48 ?_
            refine lv_aload_n hx hb dd_Heap_find_51 rfl (lv_at hl 1 rfl) ?_
            refine gf_h_Heap_61_value C hP dd_Heap_find_52 ?_
            refine lv_iload hx hb dd_Heap_find_55 (lv_at hl 3 rfl) ?_
            obtain ⟨hi, h⟩ := xp_g h
            refine al_h_62 C hP hi dd_Heap_find_57 ?_
            refine lv_l2i hx hb dd_Heap_find_58 rfl ?_
            refine lv_iconst (v := 1) hx hb dd_Heap_find_59 (by decide) ?_
            obtain ⟨hi, h⟩ := xp_g h
            refine as_h_74 C hP hS hi dd_Heap_find_60 (fun H locs hP hS => ?_)
            obtain ⟨u2, eu2, h⟩ := xp_let h
            rw [← eu2] at hP
            refine lv_aload_n hx hb dd_Heap_find_61 rfl (lv_at hl 0 rfl) ?_
            refine gf_h_Heap_67_found C hP dd_Heap_find_62 ?_
            refine lv_aload_n hx hb dd_Heap_find_65 rfl (lv_at hl 0 rfl) ?_
            refine gf_h_Heap_67_foundCount C hP dd_Heap_find_66 ?_
            refine lv_aload_n hx hb dd_Heap_find_69 rfl (lv_at hl 1 rfl) ?_
            refine gf_h_Heap_61_value C hP dd_Heap_find_70 ?_
            refine lv_iload hx hb dd_Heap_find_73 (lv_at hl 3 rfl) ?_
            obtain ⟨hi, h⟩ := xp_g h
            refine al_h_62 C hP hi dd_Heap_find_75 ?_
            refine lv_l2i hx hb dd_Heap_find_76 rfl ?_
            obtain ⟨hi, h⟩ := xp_g h
            refine as_h_76 C hP hS hi dd_Heap_find_77 (fun H locs hP hS => ?_)
            obtain ⟨u3, eu3, h⟩ := xp_let h
            rw [← eu3] at hP
            refine lv_aload_n hx hb dd_Heap_find_78 rfl (lv_at hl 0 rfl) ?_
            refine lv_dup hx hb dd_Heap_find_79 rfl ?_
            refine gf_h_Heap_67_foundCount C hP dd_Heap_find_80 ?_
            refine lv_iconst (v := 1) hx hb dd_Heap_find_83 (by decide) ?_
            refine lv_iadd hx hb dd_Heap_find_84 ?_
            refine pf_h_Heap_67_foundCount C hP hS dd_Heap_find_85 (fun H locs hP hS => ?_)
            obtain ⟨u4, eu4, h⟩ := xp_let h
            rw [← eu4] at hP
            exact wj_Heap_find_88 htr C hne hk3 h hP hS (lv_sub hl [0, 1, 2, 3] rfl)
set_option maxHeartbeats 4000000 in
set_option maxRecDepth 100000 in
theorem ct_Heap_find {l : Launch} {D : va_G} {ad : Nat → Nat} {ca : Nat → ClassId} {ads : List Nat} (htr : l.stackTraces = false) (hok : xk_ok (kw_h ad ca) ads) {fu : Nat} {x1 : Int32} {x2 : Int32} {u u' : xk_St} {r : Unit} (h : fm_Heap_find fu x1 x2 u = some (r, u')) :
    ∀ sz, xk_Met l ⟨"ModuleHouse$Heap", "find", "(LModuleHouse$Values;II)V"⟩ (Cond.code ⟨"ModuleHouse$Heap", "find", "(LModuleHouse$Values;II)V"⟩ prog_4_method_6_code 5 none :: xk_gd) rm_Heap_find (xk_Pc D kx_cl (kx_ty ca) (kw_h ad ca) ads xk_F sz [.ref (ad 67), .ref (ad 61), .int x1, .int x2] u) (xk_Qc D kx_cl (kw_h ad ca) ads (xo_v (.inl r)) u') (xk_A ads sz) := by
  unfold fm_Heap_find at h
  refine xk_con (by decide) htr hok (Nat.le_of_ble_eq_true rfl) (fun p e s m below meth c ls C hne hl hP => ?_)
  have hx := C.1.1
  have hb := C.1.2.1
  have hS : va_S (xk_A ads s.heap.size) s.heap s.heap [] := va_S.rf
  have hl : lv_has ls 5 [(0, .ref (ad 67)), (1, .ref (ad 61)), (2, .int x1), (3, .int x2)] := hl
  refine lv_iload_n hx hb dd_Heap_find_0 rfl (lv_at hl 2 rfl) ?_
  refine lv_istore (lv' := [(4, .int x1), (0, .ref (ad 67)), (1, .ref (ad 61)), (2, .int x1), (3, .int x2)]) hx hb dd_Heap_find_1 hl (by decide) rfl (fun ls hl => ?_)
  exact wj_Heap_find_3 htr C hne h hP hS (lv_sub hl [1, 2, 4, 0] rfl)
