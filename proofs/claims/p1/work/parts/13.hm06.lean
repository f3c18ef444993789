abbrev rm_Machine_run : Room := { frames := 13, cells := 1, slots := 6, locals := 269 }
noncomputable def jb_Machine_run_29 (fu : Nat) : Nat → Int64 → xk_St → Option (Int32 × xk_St)
  | 0 => fun _ _ => none
  | n + 1 => fun b3 u =>
    xs_let (jb_Machine_run_29 fu  n) fun k29 =>
    if b3 ≤ (0 : Int64) then (some ((u.1 27), u)) else (if (u.1 27) = (0 : Int32) then (if (u.1 24) ≤ (0 : Int32) then (some ((u.1 27), u)) else ((xs_let (u.1 26) fun a6 => xs_let (xs_I u 26 ((u.1 26) + (1 : Int32))) fun u7 => if a6 < 0 ∨ 8192 ≤ a6.toNatClampNeg then none else xs_seq (fm_Machine_step fu (u7.2.2.1 7 a6.toNatClampNeg) a6 u7) fun _ u8 => xs_let (b3 - (1 : Int64)) fun a9 => k29 a9 u8))) else (some ((u.1 27), u)))
noncomputable def fm_Machine_run (fu : Nat) (x0 : Int32) (x1 : Int32) (u : xk_St) : Option (Int32 × xk_St) :=
  (xs_let (xs_I u 23 x1) fun u1 => xs_let (xs_I u1 27 (0 : Int32)) fun u2 => xs_let (xs_I u2 24 (0 : Int32)) fun u3 => xs_seq (fm_Machine_enter x0 u3) fun _ u4 => xs_let (((x1.toInt64) + (1 : Int64)) * (8192 : Int64)) fun a5 => jb_Machine_run_29 fu fu a5 u4)
set_option maxHeartbeats 4000000 in
set_option maxRecDepth 100000 in
theorem wj_Machine_run_29 {p : Program} {l : Launch} {e : Env} {s : State} {m : MethodId} {args : Array Value} {below : List Frame} {meth : Method} {c : Code} {D : va_G} {ad : Nat → Nat} {ca : Nat → ClassId} {ads : List Nat} {fu : Nat} (htr : l.stackTraces = false) (C : xk_C D kx_cl (kx_ty ca) (kw_h ad ca) ads "ModuleHouse$Machine" prog_5_method_6_code 6 (some .int) p e s m args meth c) (hne : c.exceptionTable.isEmpty = true) {u' : xk_St} {r : Int32} : ∀ {n : Nat} {b3 : Int64} {u : xk_St} {H : Heap} {locs : List Loc} {ls : Array Slot} (h : jb_Machine_run_29 fu  n b3 u = some (r, u')) (hP : va_P D kx_cl (kw_h ad ca u) H) (hS : va_S (xk_A ads s.heap.size) s.heap H locs) (hl : lv_has ls 6 [(0, .ref (ad 60)), (3, .long b3)]), W p l e rm_Machine_run s m args below meth c H locs 0 0 (xk_MQ below (xk_Qc D kx_cl (kw_h ad ca) ads (xo_i (.inl r)) u') args s (xk_A ads s.heap.size)) (F0 m 29 ls []) := by
  intro n
  have hx := C.1.1
  have hb := C.1.2.1
  have hok := C.2.2.1
  induction n with
  | zero =>
    intro _ u H locs ls h
    have h : none = some (r, u') := h
    cases h
  | succ n ih =>
    intro b3 u H locs ls h hP hS hl
    unfold jb_Machine_run_29 at h
    obtain ⟨k29, ek29, h⟩ := xp_let h
    have hk29 : ∀ (c0 : Int64) (u : xk_St) (H : Heap) (locs : List Loc) (ls : Array Slot), k29 c0 u = some (r, u') → va_P D kx_cl (kw_h ad ca u) H → va_S (xk_A ads s.heap.size) s.heap H locs → lv_has ls 6 [(0, .ref (ad 60)), (3, .long c0)] → W p l e rm_Machine_run s m args below meth c H locs 0 0 (xk_MQ below (xk_Qc D kx_cl (kw_h ad ca) ads (xo_i (.inl r)) u') args s (xk_A ads s.heap.size)) (F0 m 29 ls []) := by
      intro c0 u H locs ls h hP hS hl
      subst ek29
      exact ih h hP hS hl
    clear ih ek29
    refine lv_lload_n hx hb dd_Machine_run_29 rfl (lv_at hl 1 rfl) ?_
    refine lv_lconst (v := 0) hx hb dd_Machine_run_30 (by decide) ?_
    refine xr_lc_le (tgt := 88) hx hb dd_Machine_run_31 dd_Machine_run_32 (by decide) (fun hc => ?_) (fun hc => ?_)
    · have h := xp_t hc h
      refine lv_aload_n hx hb dd_Machine_run_88 rfl (lv_at hl 0 rfl) ?_
      refine gf_h_Machine_60_trap C hP dd_Machine_run_89 ?_
      obtain ⟨rfl, rfl⟩ := xp_r h
      exact xr_iret C hP hS dd_Machine_run_92
    · have h := xp_f hc h
      refine lv_aload_n hx hb dd_Machine_run_35 rfl (lv_at hl 0 rfl) ?_
      refine gf_h_Machine_60_trap C hP dd_Machine_run_36 ?_
      refine lv_if_ne (tgt := 88) hx hb dd_Machine_run_39 (by decide) (fun hc => ?_) (fun hc => ?_)
      · have h := xp_f hc h
        refine lv_aload_n hx hb dd_Machine_run_88 rfl (lv_at hl 0 rfl) ?_
        refine gf_h_Machine_60_trap C hP dd_Machine_run_89 ?_
        obtain ⟨rfl, rfl⟩ := xp_r h
        exact xr_iret C hP hS dd_Machine_run_92
      · have h := xp_t hc h
        refine lv_aload_n hx hb dd_Machine_run_42 rfl (lv_at hl 0 rfl) ?_
        refine gf_h_Machine_60_depth C hP dd_Machine_run_43 ?_
        refine lv_if_le (tgt := 88) hx hb dd_Machine_run_46 (by decide) (fun hc => ?_) (fun hc => ?_)
        · have h := xp_t hc h
          refine lv_aload_n hx hb dd_Machine_run_88 rfl (lv_at hl 0 rfl) ?_
          refine gf_h_Machine_60_trap C hP dd_Machine_run_89 ?_
          obtain ⟨rfl, rfl⟩ := xp_r h
          exact xr_iret C hP hS dd_Machine_run_92
        · have h := xp_f hc h
          refine lv_aload_n hx hb dd_Machine_run_49 rfl (lv_at hl 0 rfl) ?_
          refine gf_h_Machine_60_next C hP dd_Machine_run_50 ?_
          obtain ⟨a6, ea6, h⟩ := xp_let h
          refine xr_nami ea6 ?_
          refine lv_istore (lv' := [(5, .int a6), (0, .ref (ad 60)), (3, .long b3)]) hx hb dd_Machine_run_53 hl (by decide) rfl (fun ls hl => ?_)
          refine lv_aload_n hx hb dd_Machine_run_55 rfl (lv_at hl 1 rfl) ?_
          refine lv_dup hx hb dd_Machine_run_56 rfl ?_
          refine gf_h_Machine_60_next C hP dd_Machine_run_57 ?_
          refine lv_iconst (v := 1) hx hb dd_Machine_run_60 (by decide) ?_
          refine lv_iadd hx hb dd_Machine_run_61 ?_
          refine pf_h_Machine_60_next C hP hS dd_Machine_run_62 (fun H locs hP hS => ?_)
          obtain ⟨u7, eu7, h⟩ := xp_let h
          rw [← eu7] at hP
          refine lv_aload_n hx hb dd_Machine_run_65 rfl (lv_at hl 1 rfl) ?_
          refine lv_aload_n hx hb dd_Machine_run_66 rfl (lv_at hl 1 rfl) ?_
          refine gf_h_Machine_60_code C hP dd_Machine_run_67 ?_
          refine gf_h_Machine_12_op C hP dd_Machine_run_70 ?_
          refine lv_iload hx hb dd_Machine_run_73 (lv_at hl 0 rfl) ?_
          obtain ⟨hi, h⟩ := xp_g h
          refine al_h_13 C hP hi dd_Machine_run_75 ?_
          refine lv_iload hx hb dd_Machine_run_76 (lv_at hl 0 rfl) ?_
          obtain ⟨rx, u8, hq, h⟩ := xp_seq h
          refine xk_goesV (xr_V (As := [.int (u7.2.2.1 7 a6.toNatClampNeg), .int a6]) (rest := []) C hP hS (ct_Machine_step htr hok hq) kq_Machine_181 60 4 rfl rfl ⟨rfl, rfl, Nat.le_of_ble_eq_true rfl, Nat.le_of_ble_eq_true rfl⟩ ⟨Nat.le_of_ble_eq_true rfl, Nat.le_of_ble_eq_true rfl⟩ hl.1 rfl rfl (Nat.le_of_ble_eq_true rfl) dd_Machine_run_78) hS (fun H locs hP hS => ?_)
          clear hq
          refine lv_lload_n hx hb dd_Machine_run_81 rfl (lv_at hl 2 rfl) ?_
          refine lv_lconst (v := 1) hx hb dd_Machine_run_82 (by decide) ?_
          refine lv_lsub hx hb dd_Machine_run_83 ?_
          obtain ⟨a9, ea9, h⟩ := xp_let h
          refine xr_naml ea9 ?_
          refine lv_lstore_n (lv' := [(3, .long a9), (5, .int a6), (0, .ref (ad 60))]) hx hb dd_Machine_run_84 rfl hl (by decide) rfl (fun ls hl => ?_)
          refine lv_goto (tgt := 29) hx hb dd_Machine_run_85 (by decide) ?_
          exact hk29 a9 u8 _ _ _ h hP hS (lv_sub hl [2, 0] rfl)
set_option maxHeartbeats 4000000 in
set_option maxRecDepth 100000 in
theorem ct_Machine_run {l : Launch} {D : va_G} {ad : Nat → Nat} {ca : Nat → ClassId} {ads : List Nat} (htr : l.stackTraces = false) (hok : xk_ok (kw_h ad ca) ads) {fu : Nat} {x0 : Int32} {x1 : Int32} {u u' : xk_St} {r : Int32} (h : fm_Machine_run fu x0 x1 u = some (r, u')) :
    ∀ sz, xk_Met l ⟨"ModuleHouse$Machine", "run", "(II)I"⟩ (Cond.code ⟨"ModuleHouse$Machine", "run", "(II)I"⟩ prog_5_method_6_code 6 (some .int) :: xk_gd) rm_Machine_run (xk_Pc D kx_cl (kx_ty ca) (kw_h ad ca) ads xk_F sz [.ref (ad 60), .int x0, .int x1] u) (xk_Qc D kx_cl (kw_h ad ca) ads (xo_i (.inl r)) u') (xk_A ads sz) := by
  unfold fm_Machine_run at h
  refine xk_con (by decide) htr hok (Nat.le_of_ble_eq_true rfl) (fun p e s m below meth c ls C hne hl hP => ?_)
  have hx := C.1.1
  have hb := C.1.2.1
  have hS : va_S (xk_A ads s.heap.size) s.heap s.heap [] := va_S.rf
  have hl : lv_has ls 6 [(0, .ref (ad 60)), (1, .int x0), (2, .int x1)] := hl
  refine lv_aload_n hx hb dd_Machine_run_0 rfl (lv_at hl 0 rfl) ?_
  refine lv_iload_n hx hb dd_Machine_run_1 rfl (lv_at hl 2 rfl) ?_
  refine pf_h_Machine_60_turns C hP hS dd_Machine_run_2 (fun H locs hP hS => ?_)
  obtain ⟨u1, eu1, h⟩ := xp_let h
  rw [← eu1] at hP
  refine lv_aload_n hx hb dd_Machine_run_5 rfl (lv_at hl 0 rfl) ?_
  refine lv_iconst (v := 0) hx hb dd_Machine_run_6 (by decide) ?_
  refine pf_h_Machine_60_trap C hP hS dd_Machine_run_7 (fun H locs hP hS => ?_)
  obtain ⟨u2, eu2, h⟩ := xp_let h
  rw [← eu2] at hP
  refine lv_aload_n hx hb dd_Machine_run_10 rfl (lv_at hl 0 rfl) ?_
  refine lv_iconst (v := 0) hx hb dd_Machine_run_11 (by decide) ?_
  refine pf_h_Machine_60_depth C hP hS dd_Machine_run_12 (fun H locs hP hS => ?_)
  obtain ⟨u3, eu3, h⟩ := xp_let h
  rw [← eu3] at hP
  refine lv_aload_n hx hb dd_Machine_run_15 rfl (lv_at hl 0 rfl) ?_
  refine lv_iload_n hx hb dd_Machine_run_16 rfl (lv_at hl 1 rfl) ?_
  obtain ⟨rx, u4, hq, h⟩ := xp_seq h
  refine xk_goesV (xr_V (As := [.int x0]) (rest := []) C hP hS (ct_Machine_enter htr hok hq) kq_Machine_169 60 4 rfl rfl ⟨rfl, rfl, Nat.le_of_ble_eq_true rfl, Nat.le_of_ble_eq_true rfl⟩ ⟨Nat.le_of_ble_eq_true rfl, Nat.le_of_ble_eq_true rfl⟩ hl.1 rfl rfl (Nat.le_of_ble_eq_true rfl) dd_Machine_run_17) hS (fun H locs hP hS => ?_)
  clear hq
  refine lv_iload_n hx hb dd_Machine_run_20 rfl (lv_at hl 2 rfl) ?_
  refine lv_i2l hx hb dd_Machine_run_21 rfl ?_
  refine lv_lconst (v := 1) hx hb dd_Machine_run_22 (by decide) ?_
  refine lv_ladd hx hb dd_Machine_run_23 ?_
  refine lv_ldc2 (v := 8192) hx hb C.1.2.2.2.1 (C.1.2.2.2.2 _ (xk_c6 (w := Jvm.Cond.constantLong "ModuleHouse$Machine" 172 8192) 175 rfl rfl)) dd_Machine_run_24 ?_
  refine lv_lmul hx hb dd_Machine_run_27 ?_
  obtain ⟨a5, ea5, h⟩ := xp_let h
  refine xr_naml ea5 ?_
  refine lv_lstore_n (lv' := [(3, .long a5), (0, .ref (ad 60)), (1, .int x0), (2, .int x1)]) hx hb dd_Machine_run_28 rfl hl (by decide) rfl (fun ls hl => ?_)
  exact wj_Machine_run_29 htr C hne h hP hS (lv_sub hl [1, 0] rfl)
abbrev rm_House_shown : Room := { frames := 1, cells := 1, slots := 6, locals := 0 }
noncomputable def fm_House_shown (x1 : Int32) (u : xk_St) : Option (Int64 × xk_St) :=
  (if x1 < 0 ∨ 18000 ≤ x1.toNatClampNeg then none else if (u.2.2.1 37 x1.toNatClampNeg) = (0 : Int32) then ((if x1 < 0 ∨ 18000 ≤ x1.toNatClampNeg then none else some ((u.2.2.2 10 x1.toNatClampNeg), u))) else ((if x1 < 0 ∨ 18000 ≤ x1.toNatClampNeg then none else if (u.2.2.2 10 x1.toNatClampNeg) = (0 : Int64) then (some ((0 : Int64), u)) else (some ((1 : Int64), u)))))
set_option maxHeartbeats 4000000 in
set_option maxRecDepth 100000 in
theorem ct_House_shown {l : Launch} {D : va_G} {ad : Nat → Nat} {ca : Nat → ClassId} {ads : List Nat} (htr : l.stackTraces = false) (hok : xk_ok (kw_h ad ca) ads) {x1 : Int32} {u u' : xk_St} {r : Int64} (h : fm_House_shown x1 u = some (r, u')) :
    ∀ sz, xk_Met l ⟨"ModuleHouse", "shown", "(LModuleHouse$Values;I)J"⟩ (Cond.code ⟨"ModuleHouse", "shown", "(LModuleHouse$Values;I)J"⟩ prog_1_method_11_code 2 (some .long) :: xk_gd) rm_House_shown (xk_Pc D kx_cl (kx_ty ca) (kw_h ad ca) ads xk_F sz [.ref (ad 61), .int x1] u) (xk_Qc D kx_cl (kw_h ad ca) ads (xo_l (.inl r)) u') (xk_A ads sz) := by
  unfold fm_House_shown at h
  refine xk_con (by decide) htr hok (Nat.le_of_ble_eq_true rfl) (fun p e s m below meth c ls C hne hl hP => ?_)
  have hx := C.1.1
  have hb := C.1.2.1
  have hS : va_S (xk_A ads s.heap.size) s.heap s.heap [] := va_S.rf
  have hl : lv_has ls 2 [(0, .ref (ad 61)), (1, .int x1)] := hl
  refine lv_aload_n hx hb dd_House_shown_0 rfl (lv_at hl 0 rfl) ?_
  refine gf_h_House_61_refers C hP dd_House_shown_1 ?_
  refine lv_iload_n hx hb dd_House_shown_4 rfl (lv_at hl 1 rfl) ?_
  obtain ⟨hi, h⟩ := xp_g h
  refine al_h_63 C hP hi dd_House_shown_5 ?_
  refine lv_if_ne (tgt := 16) hx hb dd_House_shown_6 (by decide) (fun hc => ?_) (fun hc => ?_)
  · have h := xp_f hc h
    refine lv_aload_n hx hb dd_House_shown_16 rfl (lv_at hl 0 rfl) ?_
    refine gf_h_House_61_value C hP dd_House_shown_17 ?_
    refine lv_iload_n hx hb dd_House_shown_20 rfl (lv_at hl 1 rfl) ?_
    obtain ⟨hi, h⟩ := xp_g h
    refine al_h_62 C hP hi dd_House_shown_21 ?_
    refine lv_lconst (v := 0) hx hb dd_House_shown_22 (by decide) ?_
    refine xr_lc_ne (tgt := 31) hx hb dd_House_shown_23 dd_House_shown_24 (by decide) (fun hc => ?_) (fun hc => ?_)
    · have h := xp_f hc h
      refine lv_lconst (v := 1) hx hb dd_House_shown_31 (by decide) ?_
      obtain ⟨rfl, rfl⟩ := xp_r h
      exact xr_lret C hP hS dd_House_shown_32
    · have h := xp_t hc h
      refine lv_lconst (v := 0) hx hb dd_House_shown_27 (by decide) ?_
      refine lv_goto (tgt := 32) hx hb dd_House_shown_28 (by decide) ?_
      obtain ⟨rfl, rfl⟩ := xp_r h
      exact xr_lret C hP hS dd_House_shown_32
  · have h := xp_t hc h
    refine lv_aload_n hx hb dd_House_shown_9 rfl (lv_at hl 0 rfl) ?_
    refine gf_h_House_61_value C hP dd_House_shown_10 ?_
    refine lv_iload_n hx hb dd_House_shown_13 rfl (lv_at hl 1 rfl) ?_
    obtain ⟨hi, h⟩ := xp_g h
    refine al_h_62 C hP hi dd_House_shown_14 ?_
    obtain ⟨rfl, rfl⟩ := xp_r h
    exact xr_lret C hP hS dd_House_shown_15
abbrev rm_House_keepResults : Room := { frames := 2, cells := 1, slots := 6, locals := 21 }
noncomputable def jb_House_keepResults_18 (fu : Nat) : Nat → Int32 → xk_St → Option (Unit × xk_St)
  | 0 => fun _ _ => none
  | n + 1 => fun b2 u =>
    xs_let (jb_House_keepResults_18 fu  n) fun k18 =>
    if (u.1 2) ≤ b2 then (some ((()), u)) else ((xs_seq (fm_House_shown b2 u) fun a2 u3 => if b2 < 0 ∨ 16 ≤ b2.toNatClampNeg then none else xs_let (xs_B u3 1 b2.toNatClampNeg a2) fun u4 => xs_let (b2 + (1 : Int32)) fun a5 => k18 a5 u4))
noncomputable def fm_House_keepResults (fu : Nat) (x0 : Int32) (u : xk_St) : Option (Unit × xk_St) :=
  (if x0 < 0 ∨ 65 ≤ x0.toNatClampNeg then none else xs_let (xs_I u 2 (u.2.2.1 4 x0.toNatClampNeg)) fun u1 => jb_House_keepResults_18 fu fu (0 : Int32) u1)
set_option maxHeartbeats 4000000 in
set_option maxRecDepth 100000 in
theorem wj_House_keepResults_18 {p : Program} {l : Launch} {e : Env} {s : State} {m : MethodId} {args : Array Value} {below : List Frame} {meth : Method} {c : Code} {D : va_G} {ad : Nat → Nat} {ca : Nat → ClassId} {ads : List Nat} {fu : Nat} (htr : l.stackTraces = false) (C : xk_C D kx_cl (kx_ty ca) (kw_h ad ca) ads "ModuleHouse" prog_1_method_10_code 3 none p e s m args meth c) (hne : c.exceptionTable.isEmpty = true) {u' : xk_St} {r : Unit} : ∀ {n : Nat} {b2 : Int32} {u : xk_St} {H : Heap} {locs : List Loc} {ls : Array Slot} (h : jb_House_keepResults_18 fu  n b2 u = some (r, u')) (hP : va_P D kx_cl (kw_h ad ca u) H) (hS : va_S (xk_A ads s.heap.size) s.heap H locs) (hl : lv_has ls 3 [(0, .ref (ad 0)), (2, .int b2)]), W p l e rm_House_keepResults s m args below meth c H locs 0 0 (xk_MQ below (xk_Qc D kx_cl (kw_h ad ca) ads (xo_v (.inl r)) u') args s (xk_A ads s.heap.size)) (F0 m 18 ls []) := by
  intro n
  have hx := C.1.1
  have hb := C.1.2.1
  have hok := C.2.2.1
  induction n with
  | zero =>
    intro _ u H locs ls h
    have h : none = some (r, u') := h
    cases h
  | succ n ih =>
    intro b2 u H locs ls h hP hS hl
    unfold jb_House_keepResults_18 at h
    obtain ⟨k18, ek18, h⟩ := xp_let h
    have hk18 : ∀ (c0 : Int32) (u : xk_St) (H : Heap) (locs : List Loc) (ls : Array Slot), k18 c0 u = some (r, u') → va_P D kx_cl (kw_h ad ca u) H → va_S (xk_A ads s.heap.size) s.heap H locs → lv_has ls 3 [(0, .ref (ad 0)), (2, .int c0)] → W p l e rm_House_keepResults s m args below meth c H locs 0 0 (xk_MQ below (xk_Qc D kx_cl (kw_h ad ca) ads (xo_v (.inl r)) u') args s (xk_A ads s.heap.size)) (F0 m 18 ls []) := by
      intro c0 u H locs ls h hP hS hl
      subst ek18
      exact ih h hP hS hl
    clear ih ek18
    refine lv_iload_n hx hb dd_House_keepResults_18 rfl (lv_at hl 1 rfl) ?_
    refine lv_aload_n hx hb dd_House_keepResults_19 rfl (lv_at hl 0 rfl) ?_
    refine gf_h_House_0_resultCount C hP dd_House_keepResults_20 ?_
    refine lv_icmp_ge (tgt := 49) hx hb dd_House_keepResults_23 (by decide) (fun hc => ?_) (fun hc => ?_)
    · have h := xp_t hc h
      obtain ⟨rfl, rfl⟩ := xp_r h
      exact xr_vret C hP hS dd_House_keepResults_49
    · have h := xp_f hc h
      refine lv_aload_n hx hb dd_House_keepResults_26 rfl (lv_at hl 0 rfl) ?_
      refine gf_h_House_0_results C hP dd_House_keepResults_27 ?_
      refine lv_iload_n hx hb dd_House_keepResults_30 rfl (lv_at hl 1 rfl) ?_
      refine lv_aload_n hx hb dd_House_keepResults_31 rfl (lv_at hl 0 rfl) ?_
      refine gf_h_House_0_machine C hP dd_House_keepResults_32 ?_
      refine gf_h_House_60_values C hP dd_House_keepResults_35 ?_
      refine lv_iload_n hx hb dd_House_keepResults_38 rfl (lv_at hl 1 rfl) ?_
      obtain ⟨a2, u3, hq, h⟩ := xp_seq h
      refine xk_goesL (xr_S (As := [.ref (ad 61), .int b2]) (rest := [.int b2, .ref (ad 3)]) C hP hS (ct_House_shown htr hok hq) kq_House_181 ⟨rfl, rfl, Nat.le_of_ble_eq_true rfl, Nat.le_of_ble_eq_true rfl⟩ ⟨Nat.le_of_ble_eq_true rfl, Nat.le_of_ble_eq_true rfl⟩ hl.1 rfl rfl (Nat.le_of_ble_eq_true rfl) dd_House_keepResults_39) hS (fun H locs hP hS => ?_)
      clear hq
      obtain ⟨hi, h⟩ := xp_g h
      refine as_h_3 C hP hS hi dd_House_keepResults_42 (fun H locs hP hS => ?_)
      obtain ⟨u4, eu4, h⟩ := xp_let h
      rw [← eu4] at hP
      obtain ⟨a5, ea5, h⟩ := xp_let h
      refine lv_iinc (v := a5) (lv' := [(2, .int a5), (0, .ref (ad 0))]) hx hb dd_House_keepResults_43 hl (k := 1) rfl (by rw [ea5]; first | rfl | decide) (by decide) rfl (fun ls hl => ?_)
      refine lv_goto (tgt := 18) hx hb dd_House_keepResults_46 (by decide) ?_
      exact hk18 a5 u4 _ _ _ h hP hS (lv_sub hl [1, 0] rfl)
set_option maxHeartbeats 4000000 in
set_option maxRecDepth 100000 in
theorem ct_House_keepResults {l : Launch} {D : va_G} {ad : Nat → Nat} {ca : Nat → ClassId} {ads : List Nat} (htr : l.stackTraces = false) (hok : xk_ok (kw_h ad ca) ads) {fu : Nat} {x0 : Int32} {u u' : xk_St} {r : Unit} (h : fm_House_keepResults fu x0 u = some (r, u')) :
    ∀ sz, xk_Met l ⟨"ModuleHouse", "keepResults", "(I)V"⟩ (Cond.code ⟨"ModuleHouse", "keepResults", "(I)V"⟩ prog_1_method_10_code 3 none :: xk_gd) rm_House_keepResults (xk_Pc D kx_cl (kx_ty ca) (kw_h ad ca) ads xk_F sz [.ref (ad 0), .int x0] u) (xk_Qc D kx_cl (kw_h ad ca) ads (xo_v (.inl r)) u') (xk_A ads sz) := by
  unfold fm_House_keepResults at h
  refine xk_con (by decide) htr hok (Nat.le_of_ble_eq_true rfl) (fun p e s m below meth c ls C hne hl hP => ?_)
  have hx := C.1.1
  have hb := C.1.2.1
  have hS : va_S (xk_A ads s.heap.size) s.heap s.heap [] := va_S.rf
  have hl : lv_has ls 3 [(0, .ref (ad 0)), (1, .int x0)] := hl
  refine lv_aload_n hx hb dd_House_keepResults_0 rfl (lv_at hl 0 rfl) ?_
  refine lv_aload_n hx hb dd_House_keepResults_1 rfl (lv_at hl 0 rfl) ?_
  refine gf_h_House_0_module C hP dd_House_keepResults_2 ?_
  refine gf_h_House_4_types C hP dd_House_keepResults_5 ?_
  refine gf_h_House_6_results C hP dd_House_keepResults_8 ?_
  refine lv_iload_n hx hb dd_House_keepResults_11 rfl (lv_at hl 1 rfl) ?_
  obtain ⟨hi, h⟩ := xp_g h
  refine al_h_9 C hP hi dd_House_keepResults_12 ?_
  refine pf_h_House_0_resultCount C hP hS dd_House_keepResults_13 (fun H locs hP hS => ?_)
  obtain ⟨u1, eu1, h⟩ := xp_let h
  rw [← eu1] at hP
  refine lv_iconst (v := 0) hx hb dd_House_keepResults_16 (by decide) ?_
  refine lv_istore_n (lv' := [(2, .int (0 : Int32)), (0, .ref (ad 0)), (1, .int x0)]) hx hb dd_House_keepResults_17 rfl hl (by decide) rfl (fun ls hl => ?_)
  exact wj_House_keepResults_18 htr C hne h hP hS (lv_sub hl [1, 0] rfl)
abbrev rm_House_call : Room := { frames := 14, cells := 1, slots := 6, locals := 294 }
noncomputable def jb_House_call_131 (fu : Nat) (b6 : Int32) (u : xk_St) : Option ((Int32 ⊕ Nat) × xk_St) :=
  (xs_let (xs_I u 28 (0 : Int32)) fun u15 => some (.inl b6, u15))
noncomputable def fm_House_call (fu : Nat) (x0 : Int32) (u : xk_St) : Option ((Int32 ⊕ Nat) × xk_St) :=
  if (0 : Int32) ≤ x0 then ((xs_let (u.1 0) fun a1 => xs_let (u.1 1) fun a2 => xs_let (xs_I u 0 (0 : Int32)) fun u3 => xs_let (xs_I u3 1 (0 : Int32)) fun u4 => xs_let (xs_I u4 2 (0 : Int32)) fun u5 => if (u5.1 4) = (0 : Int32) then (some (.inl (-1 : Int32), u5)) else ((xs_seq (fm_House_functionNamed fu a1 u5) fun a6 u7 => if a6 = (-1 : Int32) then (some (.inl (-2 : Int32), u7)) else ((if a6 < 0 ∨ 65 ≤ a6.toNatClampNeg then none else xs_let (u7.2.2.1 12 a6.toNatClampNeg) fun a8 => xs_seq (fm_House_takes fu a8 a2 u7) fun a9 u10 => if a9 = (0 : Int32) then (some (.inl (-3 : Int32), u10)) else ((xs_seq (fm_House_layArguments fu a8 a2 u10) fun _ u11 => xs_seq (fm_Machine_run fu a6 x0 u11) fun a12 u13 => xs_let (xs_I u13 3 (u13.1 23)) fun u14 => if a12 = (0 : Int32) then ((xs_seq (fm_House_keepResults fu a8 u14) fun _ u16 => jb_House_call_131 fu a12 u16)) else (jb_House_call_131 fu a12 u14))))))))) else (some (.inr 0, u))
set_option maxHeartbeats 4000000 in
set_option maxRecDepth 100000 in
theorem wj_House_call_131 {p : Program} {l : Launch} {e : Env} {s : State} {m : MethodId} {args : Array Value} {below : List Frame} {meth : Method} {c : Code} {D : va_G} {ad : Nat → Nat} {ca : Nat → ClassId} {ads : List Nat} {fu : Nat} (htr : l.stackTraces = false) (C : xk_C D kx_cl (kx_ty ca) (kw_h ad ca) ads "ModuleHouse" prog_1_method_5_code 7 (some .int) p e s m args meth c) (hne : c.exceptionTable.isEmpty = true) {u' : xk_St} {r : (Int32 ⊕ Nat)} {b6 : Int32} {u : xk_St} {H : Heap} {locs : List Loc} {ls : Array Slot} (h : jb_House_call_131 fu  b6 u = some (r, u')) (hP : va_P D kx_cl (kw_h ad ca u) H) (hS : va_S (xk_A ads s.heap.size) s.heap H locs) (hl : lv_has ls 7 [(0, .ref (ad 0)), (6, .int b6)]) : W p l e rm_House_call s m args below meth c H locs 0 0 (xk_MQ below (xk_Qc D kx_cl (kw_h ad ca) ads (xo_i r) u') args s (xk_A ads s.heap.size)) (F0 m 131 ls []) := by
  have hx := C.1.1
  have hb := C.1.2.1
  have hok := C.2.2.1
  unfold jb_House_call_131 at h
  refine lv_aload_n hx hb dd_House_call_131 rfl (lv_at hl 0 rfl) ?_
  refine gf_h_House_0_machine C hP dd_House_call_132 ?_
  refine gf_h_House_60_values C hP dd_House_call_135 ?_
  refine lv_iconst (v := 0) hx hb dd_House_call_138 (by decide) ?_
  refine pf_h_House_61_top C hP hS dd_House_call_139 (fun H locs hP hS => ?_)
  obtain ⟨u15, eu15, h⟩ := xp_let h
  rw [← eu15] at hP
  refine lv_iload hx hb dd_House_call_142 (lv_at hl 1 rfl) ?_
  obtain ⟨rfl, rfl⟩ := xp_r h
  exact xr_iret C hP hS dd_House_call_144
set_option maxHeartbeats 4000000 in
set_option maxRecDepth 100000 in
theorem ct_House_call {l : Launch} {D : va_G} {ad : Nat → Nat} {ca : Nat → ClassId} {ads : List Nat} (htr : l.stackTraces = false) (hok : xk_ok (kw_h ad ca) ads) {fu : Nat} {x0 : Int32} {u u' : xk_St} {r : (Int32 ⊕ Nat)} (h : fm_House_call fu x0 u = some (r, u')) :
    ∀ sz, xk_Met l ⟨"ModuleHouse", "call", "(I)I"⟩ (Cond.code ⟨"ModuleHouse", "call", "(I)I"⟩ prog_1_method_5_code 7 (some .int) :: xk_gd) rm_House_call (xk_Pc D kx_cl (kx_ty ca) (kw_h ad ca) ads xk_F sz [.ref (ad 0), .int x0] u) (xk_Qc D kx_cl (kw_h ad ca) ads (xo_i r) u') (xk_A ads sz) := by
  unfold fm_House_call at h
  refine xk_con (by decide) htr hok (Nat.le_of_ble_eq_true rfl) (fun p e s m below meth c ls C hne hl hP => ?_)
  have hx := C.1.1
  have hb := C.1.2.1
  have hS : va_S (xk_A ads s.heap.size) s.heap s.heap [] := va_S.rf
  have hl : lv_has ls 7 [(0, .ref (ad 0)), (1, .int x0)] := hl
  refine lv_iload_n hx hb dd_House_call_0 rfl (lv_at hl 1 rfl) ?_
  refine lv_if_ge (tgt := 12) hx hb dd_House_call_1 (by decide) (fun hc => ?_) (fun hc => ?_)
  · have h := xp_t hc h
    refine lv_aload_n hx hb dd_House_call_12 rfl (lv_at hl 0 rfl) ?_
    refine gf_h_House_0_tapeLength C hP dd_House_call_13 ?_
    obtain ⟨a1, ea1, h⟩ := xp_let h
    refine xr_nami ea1 ?_
    refine lv_istore_n (lv' := [(2, .int a1), (0, .ref (ad 0)), (1, .int x0)]) hx hb dd_House_call_16 rfl hl (by decide) rfl (fun ls hl => ?_)
    refine lv_aload_n hx hb dd_House_call_17 rfl (lv_at hl 1 rfl) ?_
    refine gf_h_House_0_argumentCount C hP dd_House_call_18 ?_
    obtain ⟨a2, ea2, h⟩ := xp_let h
    refine xr_nami ea2 ?_
    refine lv_istore_n (lv' := [(3, .int a2), (2, .int a1), (0, .ref (ad 0)), (1, .int x0)]) hx hb dd_House_call_21 rfl hl (by decide) rfl (fun ls hl => ?_)
    refine lv_aload_n hx hb dd_House_call_22 rfl (lv_at hl 2 rfl) ?_
    refine lv_iconst (v := 0) hx hb dd_House_call_23 (by decide) ?_
    refine pf_h_House_0_tapeLength C hP hS dd_House_call_24 (fun H locs hP hS => ?_)
    obtain ⟨u3, eu3, h⟩ := xp_let h
    rw [← eu3] at hP
    refine lv_aload_n hx hb dd_House_call_27 rfl (lv_at hl 2 rfl) ?_
    refine lv_iconst (v := 0) hx hb dd_House_call_28 (by decide) ?_
    refine pf_h_House_0_argumentCount C hP hS dd_House_call_29 (fun H locs hP hS => ?_)
    obtain ⟨u4, eu4, h⟩ := xp_let h
    rw [← eu4] at hP
    refine lv_aload_n hx hb dd_House_call_32 rfl (lv_at hl 2 rfl) ?_
    refine lv_iconst (v := 0) hx hb dd_House_call_33 (by decide) ?_
    refine pf_h_House_0_resultCount C hP hS dd_House_call_34 (fun H locs hP hS => ?_)
    obtain ⟨u5, eu5, h⟩ := xp_let h
    rw [← eu5] at hP
    refine lv_aload_n hx hb dd_House_call_37 rfl (lv_at hl 2 rfl) ?_
    refine gf_h_House_0_there C hP dd_House_call_38 ?_
    refine lv_if_ne (tgt := 46) hx hb dd_House_call_41 (by decide) (fun hc => ?_) (fun hc => ?_)
    · have h := xp_f hc h
      refine lv_aload_n hx hb dd_House_call_46 rfl (lv_at hl 2 rfl) ?_
      refine lv_iload_n hx hb dd_House_call_47 rfl (lv_at hl 1 rfl) ?_
      obtain ⟨a6, u7, hq, h⟩ := xp_seq h
      refine xk_goesI (xr_V (As := [.int a1]) (rest := []) C hP hS (ct_House_functionNamed htr hok hq) kq_House_122 0 0 rfl rfl ⟨rfl, rfl, Nat.le_of_ble_eq_true rfl, Nat.le_of_ble_eq_true rfl⟩ ⟨Nat.le_of_ble_eq_true rfl, Nat.le_of_ble_eq_true rfl⟩ hl.1 rfl rfl (Nat.le_of_ble_eq_true rfl) dd_House_call_48) hS (fun H locs hP hS => ?_)
      clear hq
      refine lv_istore (lv' := [(4, .int a6), (3, .int a2), (2, .int a1), (0, .ref (ad 0)), (1, .int x0)]) hx hb dd_House_call_51 hl (by decide) rfl (fun ls hl => ?_)
      refine lv_iload hx hb dd_House_call_53 (lv_at hl 0 rfl) ?_
      refine lv_iconst (v := (-1)) hx hb dd_House_call_55 (by decide) ?_
      refine lv_icmp_ne (tgt := 62) hx hb dd_House_call_56 (by decide) (fun hc => ?_) (fun hc => ?_)
      · have h := xp_f hc h
        refine lv_aload_n hx hb dd_House_call_62 rfl (lv_at hl 3 rfl) ?_
        refine gf_h_House_0_module C hP dd_House_call_63 ?_
        refine gf_h_House_4_functions C hP dd_House_call_66 ?_
        refine gf_h_House_19_kind C hP dd_House_call_69 ?_
        refine lv_iload hx hb dd_House_call_72 (lv_at hl 0 rfl) ?_
        obtain ⟨hi, h⟩ := xp_g h
        refine al_h_20 C hP hi dd_House_call_74 ?_
        obtain ⟨a8, ea8, h⟩ := xp_let h
        refine xr_nami ea8 ?_
        refine lv_istore (lv' := [(5, .int a8), (4, .int a6), (3, .int a2), (2, .int a1), (0, .ref (ad 0)), (1, .int x0)]) hx hb dd_House_call_75 hl (by decide) rfl (fun ls hl => ?_)
        refine lv_aload_n hx hb dd_House_call_77 rfl (lv_at hl 4 rfl) ?_
        refine lv_iload hx hb dd_House_call_78 (lv_at hl 0 rfl) ?_
        refine lv_iload_n hx hb dd_House_call_80 rfl (lv_at hl 2 rfl) ?_
        obtain ⟨a9, u10, hq, h⟩ := xp_seq h
        refine xk_goesI (xr_V (As := [.int a8, .int a2]) (rest := []) C hP hS (ct_House_takes htr hok hq) kq_House_130 0 0 rfl rfl ⟨rfl, rfl, Nat.le_of_ble_eq_true rfl, Nat.le_of_ble_eq_true rfl⟩ ⟨Nat.le_of_ble_eq_true rfl, Nat.le_of_ble_eq_true rfl⟩ hl.1 rfl rfl (Nat.le_of_ble_eq_true rfl) dd_House_call_81) hS (fun H locs hP hS => ?_)
        clear hq
        refine lv_if_ne (tgt := 90) hx hb dd_House_call_84 (by decide) (fun hc => ?_) (fun hc => ?_)
        · have h := xp_f hc h
          refine lv_aload_n hx hb dd_House_call_90 rfl (lv_at hl 4 rfl) ?_
          refine lv_iload hx hb dd_House_call_91 (lv_at hl 0 rfl) ?_
          refine lv_iload_n hx hb dd_House_call_93 rfl (lv_at hl 2 rfl) ?_
          obtain ⟨rx, u11, hq, h⟩ := xp_seq h
          refine xk_goesV (xr_V (As := [.int a8, .int a2]) (rest := []) C hP hS (ct_House_layArguments htr hok hq) kq_House_134 0 0 rfl rfl ⟨rfl, rfl, Nat.le_of_ble_eq_true rfl, Nat.le_of_ble_eq_true rfl⟩ ⟨Nat.le_of_ble_eq_true rfl, Nat.le_of_ble_eq_true rfl⟩ hl.1 rfl rfl (Nat.le_of_ble_eq_true rfl) dd_House_call_94) hS (fun H locs hP hS => ?_)
          clear hq
          refine lv_aload_n hx hb dd_House_call_97 rfl (lv_at hl 4 rfl) ?_
          refine gf_h_House_0_machine C hP dd_House_call_98 ?_
          refine lv_iload hx hb dd_House_call_101 (lv_at hl 1 rfl) ?_
          refine lv_iload_n hx hb dd_House_call_103 rfl (lv_at hl 5 rfl) ?_
          obtain ⟨a12, u13, hq, h⟩ := xp_seq h
          refine xk_goesI (xr_V (As := [.int a6, .int x0]) (rest := []) C hP hS (ct_Machine_run htr hok hq) kq_House_103 60 4 rfl rfl ⟨rfl, rfl, Nat.le_of_ble_eq_true rfl, Nat.le_of_ble_eq_true rfl⟩ ⟨Nat.le_of_ble_eq_true rfl, Nat.le_of_ble_eq_true rfl⟩ hl.1 rfl rfl (Nat.le_of_ble_eq_true rfl) dd_House_call_104) hS (fun H locs hP hS => ?_)
          clear hq
          refine lv_istore (lv' := [(6, .int a12), (5, .int a8), (4, .int a6), (3, .int a2), (2, .int a1), (0, .ref (ad 0)), (1, .int x0)]) hx hb dd_House_call_107 hl (by decide) rfl (fun ls hl => ?_)
          refine lv_aload_n hx hb dd_House_call_109 rfl (lv_at hl 5 rfl) ?_
          refine lv_aload_n hx hb dd_House_call_110 rfl (lv_at hl 5 rfl) ?_
          refine gf_h_House_0_machine C hP dd_House_call_111 ?_
          refine gf_h_House_60_turns C hP dd_House_call_114 ?_
          refine pf_h_House_0_turnsLeft C hP hS dd_House_call_117 (fun H locs hP hS => ?_)
          obtain ⟨u14, eu14, h⟩ := xp_let h
          rw [← eu14] at hP
          refine lv_iload hx hb dd_House_call_120 (lv_at hl 0 rfl) ?_
          refine lv_if_ne (tgt := 131) hx hb dd_House_call_122 (by decide) (fun hc => ?_) (fun hc => ?_)
          · have h := xp_f hc h
            exact wj_House_call_131 htr C hne h hP hS (lv_sub hl [5, 0] rfl)
          · have h := xp_t hc h
            refine lv_aload_n hx hb dd_House_call_125 rfl (lv_at hl 5 rfl) ?_
            refine lv_iload hx hb dd_House_call_126 (lv_at hl 1 rfl) ?_
            obtain ⟨rx, u16, hq, h⟩ := xp_seq h
            refine xk_goesV (xr_V (As := [.int a8]) (rest := []) C hP hS (ct_House_keepResults htr hok hq) kq_House_138 0 0 rfl rfl ⟨rfl, rfl, Nat.le_of_ble_eq_true rfl, Nat.le_of_ble_eq_true rfl⟩ ⟨Nat.le_of_ble_eq_true rfl, Nat.le_of_ble_eq_true rfl⟩ hl.1 rfl rfl (Nat.le_of_ble_eq_true rfl) dd_House_call_128) hS (fun H locs hP hS => ?_)
            clear hq
            exact wj_House_call_131 htr C hne h hP hS (lv_sub hl [5, 0] rfl)
        · have h := xp_t hc h
          refine lv_bipush (v := (-3)) hx hb dd_House_call_87 (by decide) ?_
          obtain ⟨rfl, rfl⟩ := xp_r h
          exact xr_iret C hP hS dd_House_call_89
      · have h := xp_t hc h
        refine lv_bipush (v := (-2)) hx hb dd_House_call_59 (by decide) ?_
        obtain ⟨rfl, rfl⟩ := xp_r h
        exact xr_iret C hP hS dd_House_call_61
    · have h := xp_t hc h
      refine lv_iconst (v := (-1)) hx hb dd_House_call_44 (by decide) ?_
      obtain ⟨rfl, rfl⟩ := xp_r h
      exact xr_iret C hP hS dd_House_call_45
  · have h := xp_f hc h
    obtain ⟨rfl, rfl⟩ := xp_r h
    exact xr_throw C hP hS hne kz_House_0 hl.1 ⟨Nat.le_of_ble_eq_true rfl, Nat.le_of_ble_eq_true rfl, Nat.le_of_ble_eq_true rfl, Nat.le_of_ble_eq_true rfl⟩ dd_House_call_4 dd_House_call_7 dd_House_call_8 dd_House_call_11
abbrev rm_House_result : Room := { frames := 6, cells := 1, slots := 6, locals := 100 }
noncomputable def fm_House_result (x0 : Int32) (u : xk_St) : Option ((Int64 ⊕ Nat) × xk_St) :=
  if x0 < (0 : Int32) then (some (.inr 3, u)) else (if x0 < (u.1 2) then ((if x0 < 0 ∨ 16 ≤ x0.toNatClampNeg then none else some (.inl (u.2.2.2 1 x0.toNatClampNeg), u))) else (some (.inr 3, u)))
set_option maxHeartbeats 4000000 in
set_option maxRecDepth 100000 in
theorem ct_House_result {l : Launch} {D : va_G} {ad : Nat → Nat} {ca : Nat → ClassId} {ads : List Nat} (htr : l.stackTraces = false) (hok : xk_ok (kw_h ad ca) ads) {x0 : Int32} {u u' : xk_St} {r : (Int64 ⊕ Nat)} (h : fm_House_result x0 u = some (r, u')) :
    ∀ sz, xk_Met l ⟨"ModuleHouse", "result", "(I)J"⟩ (Cond.code ⟨"ModuleHouse", "result", "(I)J"⟩ prog_1_method_12_code 2 (some .long) :: xk_gd) rm_House_result (xk_Pc D kx_cl (kx_ty ca) (kw_h ad ca) ads xk_F sz [.ref (ad 0), .int x0] u) (xk_Qc D kx_cl (kw_h ad ca) ads (xo_l r) u') (xk_A ads sz) := by
  unfold fm_House_result at h
  refine xk_con (by decide) htr hok (Nat.le_of_ble_eq_true rfl) (fun p e s m below meth c ls C hne hl hP => ?_)
  have hx := C.1.1
  have hb := C.1.2.1
  have hS : va_S (xk_A ads s.heap.size) s.heap s.heap [] := va_S.rf
  have hl : lv_has ls 2 [(0, .ref (ad 0)), (1, .int x0)] := hl
  refine lv_iload_n hx hb dd_House_result_0 rfl (lv_at hl 1 rfl) ?_
  refine lv_if_lt (tgt := 12) hx hb dd_House_result_1 (by decide) (fun hc => ?_) (fun hc => ?_)
  · have h := xp_t hc h
    obtain ⟨rfl, rfl⟩ := xp_r h
    exact xr_throw C hP hS hne kz_House_3 hl.1 ⟨Nat.le_of_ble_eq_true rfl, Nat.le_of_ble_eq_true rfl, Nat.le_of_ble_eq_true rfl, Nat.le_of_ble_eq_true rfl⟩ dd_House_result_12 dd_House_result_15 dd_House_result_16 dd_House_result_19
  · have h := xp_f hc h
    refine lv_iload_n hx hb dd_House_result_4 rfl (lv_at hl 1 rfl) ?_
    refine lv_aload_n hx hb dd_House_result_5 rfl (lv_at hl 0 rfl) ?_
    refine gf_h_House_0_resultCount C hP dd_House_result_6 ?_
    refine lv_icmp_lt (tgt := 20) hx hb dd_House_result_9 (by decide) (fun hc => ?_) (fun hc => ?_)
    · have h := xp_t hc h
      refine lv_aload_n hx hb dd_House_result_20 rfl (lv_at hl 0 rfl) ?_
      refine gf_h_House_0_results C hP dd_House_result_21 ?_
      refine lv_iload_n hx hb dd_House_result_24 rfl (lv_at hl 1 rfl) ?_
      obtain ⟨hi, h⟩ := xp_g h
      refine al_h_3 C hP hi dd_House_result_25 ?_
      obtain ⟨rfl, rfl⟩ := xp_r h
      exact xr_lret C hP hS dd_House_result_26
    · have h := xp_f hc h
      obtain ⟨rfl, rfl⟩ := xp_r h
      exact xr_throw C hP hS hne kz_House_3 hl.1 ⟨Nat.le_of_ble_eq_true rfl, Nat.le_of_ble_eq_true rfl, Nat.le_of_ble_eq_true rfl, Nat.le_of_ble_eq_true rfl⟩ dd_House_result_12 dd_House_result_15 dd_House_result_16 dd_House_result_19
abbrev rm_House_shown__h64 : Room := { frames := 1, cells := 1, slots := 6, locals := 0 }
noncomputable def fm_House_shown__h64 (x1 : Int32) (u : xk_St) : Option (Int64 × xk_St) :=
  (if x1 < 0 ∨ 64 ≤ x1.toNatClampNeg then none else if (u.2.2.1 38 x1.toNatClampNeg) = (0 : Int32) then ((if x1 < 0 ∨ 64 ≤ x1.toNatClampNeg then none else some ((u.2.2.2 11 x1.toNatClampNeg), u))) else ((if x1 < 0 ∨ 64 ≤ x1.toNatClampNeg then none else if (u.2.2.2 11 x1.toNatClampNeg) = (0 : Int64) then (some ((0 : Int64), u)) else (some ((1 : Int64), u)))))
set_option maxHeartbeats 4000000 in
set_option maxRecDepth 100000 in
theorem ct_House_shown__h64 {l : Launch} {D : va_G} {ad : Nat → Nat} {ca : Nat → ClassId} {ads : List Nat} (htr : l.stackTraces = false) (hok : xk_ok (kw_h ad ca) ads) {x1 : Int32} {u u' : xk_St} {r : Int64} (h : fm_House_shown__h64 x1 u = some (r, u')) :
    ∀ sz, xk_Met l ⟨"ModuleHouse", "shown", "(LModuleHouse$Values;I)J"⟩ (Cond.code ⟨"ModuleHouse", "shown", "(LModuleHouse$Values;I)J"⟩ prog_1_method_11_code 2 (some .long) :: xk_gd) rm_House_shown__h64 (xk_Pc D kx_cl (kx_ty ca) (kw_h ad ca) ads xk_F sz [.ref (ad 64), .int x1] u) (xk_Qc D kx_cl (kw_h ad ca) ads (xo_l (.inl r)) u') (xk_A ads sz) := by
  unfold fm_House_shown__h64 at h
  refine xk_con (by decide) htr hok (Nat.le_of_ble_eq_true rfl) (fun p e s m below meth c ls C hne hl hP => ?_)
  have hx := C.1.1
  have hb := C.1.2.1
  have hS : va_S (xk_A ads s.heap.size) s.heap s.heap [] := va_S.rf
  have hl : lv_has ls 2 [(0, .ref (ad 64)), (1, .int x1)] := hl
  refine lv_aload_n hx hb dd_House_shown_0 rfl (lv_at hl 0 rfl) ?_
  refine gf_h_House_64_refers C hP dd_House_shown_1 ?_
  refine lv_iload_n hx hb dd_House_shown_4 rfl (lv_at hl 1 rfl) ?_
  obtain ⟨hi, h⟩ := xp_g h
  refine al_h_66 C hP hi dd_House_shown_5 ?_
  refine lv_if_ne (tgt := 16) hx hb dd_House_shown_6 (by decide) (fun hc => ?_) (fun hc => ?_)
  · have h := xp_f hc h
    refine lv_aload_n hx hb dd_House_shown_16 rfl (lv_at hl 0 rfl) ?_
    refine gf_h_House_64_value C hP dd_House_shown_17 ?_
    refine lv_iload_n hx hb dd_House_shown_20 rfl (lv_at hl 1 rfl) ?_
    obtain ⟨hi, h⟩ := xp_g h
    refine al_h_65 C hP hi dd_House_shown_21 ?_
    refine lv_lconst (v := 0) hx hb dd_House_shown_22 (by decide) ?_
    refine xr_lc_ne (tgt := 31) hx hb dd_House_shown_23 dd_House_shown_24 (by decide) (fun hc => ?_) (fun hc => ?_)
    · have h := xp_f hc h
      refine lv_lconst (v := 1) hx hb dd_House_shown_31 (by decide) ?_
      obtain ⟨rfl, rfl⟩ := xp_r h
      exact xr_lret C hP hS dd_House_shown_32
    · have h := xp_t hc h
      refine lv_lconst (v := 0) hx hb dd_House_shown_27 (by decide) ?_
      refine lv_goto (tgt := 32) hx hb dd_House_shown_28 (by decide) ?_
      obtain ⟨rfl, rfl⟩ := xp_r h
      exact xr_lret C hP hS dd_House_shown_32
  · have h := xp_t hc h
    refine lv_aload_n hx hb dd_House_shown_9 rfl (lv_at hl 0 rfl) ?_
    refine gf_h_House_64_value C hP dd_House_shown_10 ?_
    refine lv_iload_n hx hb dd_House_shown_13 rfl (lv_at hl 1 rfl) ?_
    obtain ⟨hi, h⟩ := xp_g h
    refine al_h_65 C hP hi dd_House_shown_14 ?_
    obtain ⟨rfl, rfl⟩ := xp_r h
    exact xr_lret C hP hS dd_House_shown_15
abbrev rm_House_global : Room := { frames := 6, cells := 1, slots := 6, locals := 100 }
noncomputable def fm_House_global (x0 : Int32) (u : xk_St) : Option ((Int64 ⊕ Nat) × xk_St) :=
  if (u.1 4) = (0 : Int32) then (some (.inr 3, u)) else (if x0 < (0 : Int32) then (some (.inr 3, u)) else (if (u.1 14) ≤ x0 then (some (.inr 3, u)) else ((if x0 < 0 ∨ 65 ≤ x0.toNatClampNeg then none else if (u.2.2.1 24 x0.toNatClampNeg) = (3 : Int32) then ((if x0 < 0 ∨ 65 ≤ x0.toNatClampNeg then none else xs_seq (fm_House_shown__h64 ((u.2.2.2 7 x0.toNatClampNeg).toInt32) u) fun a1 u2 => some (.inl a1, u2))) else (some (.inr 3, u))))))
set_option maxHeartbeats 4000000 in
set_option maxRecDepth 100000 in
theorem ct_House_global {l : Launch} {D : va_G} {ad : Nat → Nat} {ca : Nat → ClassId} {ads : List Nat} (htr : l.stackTraces = false) (hok : xk_ok (kw_h ad ca) ads) {x0 : Int32} {u u' : xk_St} {r : (Int64 ⊕ Nat)} (h : fm_House_global x0 u = some (r, u')) :
    ∀ sz, xk_Met l ⟨"ModuleHouse", "global", "(I)J"⟩ (Cond.code ⟨"ModuleHouse", "global", "(I)J"⟩ prog_1_method_13_code 2 (some .long) :: xk_gd) rm_House_global (xk_Pc D kx_cl (kx_ty ca) (kw_h ad ca) ads xk_F sz [.ref (ad 0), .int x0] u) (xk_Qc D kx_cl (kw_h ad ca) ads (xo_l r) u') (xk_A ads sz) := by
  unfold fm_House_global at h
  refine xk_con (by decide) htr hok (Nat.le_of_ble_eq_true rfl) (fun p e s m below meth c ls C hne hl hP => ?_)
  have hx := C.1.1
  have hb := C.1.2.1
  have hS : va_S (xk_A ads s.heap.size) s.heap s.heap [] := va_S.rf
  have hl : lv_has ls 2 [(0, .ref (ad 0)), (1, .int x0)] := hl
  refine lv_aload_n hx hb dd_House_global_0 rfl (lv_at hl 0 rfl) ?_
  refine gf_h_House_0_there C hP dd_House_global_1 ?_
  refine lv_if_eq (tgt := 41) hx hb dd_House_global_4 (by decide) (fun hc => ?_) (fun hc => ?_)
  · have h := xp_t hc h
    obtain ⟨rfl, rfl⟩ := xp_r h
    exact xr_throw C hP hS hne kz_House_3 hl.1 ⟨Nat.le_of_ble_eq_true rfl, Nat.le_of_ble_eq_true rfl, Nat.le_of_ble_eq_true rfl, Nat.le_of_ble_eq_true rfl⟩ dd_House_global_41 dd_House_global_44 dd_House_global_45 dd_House_global_48
  · have h := xp_f hc h
    refine lv_iload_n hx hb dd_House_global_7 rfl (lv_at hl 1 rfl) ?_
    refine lv_if_lt (tgt := 41) hx hb dd_House_global_8 (by decide) (fun hc => ?_) (fun hc => ?_)
    · have h := xp_t hc h
      obtain ⟨rfl, rfl⟩ := xp_r h
      exact xr_throw C hP hS hne kz_House_3 hl.1 ⟨Nat.le_of_ble_eq_true rfl, Nat.le_of_ble_eq_true rfl, Nat.le_of_ble_eq_true rfl, Nat.le_of_ble_eq_true rfl⟩ dd_House_global_41 dd_House_global_44 dd_House_global_45 dd_House_global_48
    · have h := xp_f hc h
      refine lv_iload_n hx hb dd_House_global_11 rfl (lv_at hl 1 rfl) ?_
      refine lv_aload_n hx hb dd_House_global_12 rfl (lv_at hl 0 rfl) ?_
      refine gf_h_House_0_module C hP dd_House_global_13 ?_
      refine gf_h_House_4_exports C hP dd_House_global_16 ?_
      refine gf_h_House_39_count C hP dd_House_global_19 ?_
      refine lv_icmp_ge (tgt := 41) hx hb dd_House_global_22 (by decide) (fun hc => ?_) (fun hc => ?_)
      · have h := xp_t hc h
        obtain ⟨rfl, rfl⟩ := xp_r h
        exact xr_throw C hP hS hne kz_House_3 hl.1 ⟨Nat.le_of_ble_eq_true rfl, Nat.le_of_ble_eq_true rfl, Nat.le_of_ble_eq_true rfl, Nat.le_of_ble_eq_true rfl⟩ dd_House_global_41 dd_House_global_44 dd_House_global_45 dd_House_global_48
      · have h := xp_f hc h
        refine lv_aload_n hx hb dd_House_global_25 rfl (lv_at hl 0 rfl) ?_
        refine gf_h_House_0_module C hP dd_House_global_26 ?_
        refine gf_h_House_4_exports C hP dd_House_global_29 ?_
        refine gf_h_House_39_kind C hP dd_House_global_32 ?_
        refine lv_iload_n hx hb dd_House_global_35 rfl (lv_at hl 1 rfl) ?_
        obtain ⟨hi, h⟩ := xp_g h
        refine al_h_40 C hP hi dd_House_global_36 ?_
        refine lv_iconst (v := 3) hx hb dd_House_global_37 (by decide) ?_
        refine lv_icmp_eq (tgt := 49) hx hb dd_House_global_38 (by decide) (fun hc => ?_) (fun hc => ?_)
        · have h := xp_t hc h
          refine lv_aload_n hx hb dd_House_global_49 rfl (lv_at hl 0 rfl) ?_
          refine gf_h_House_0_machine C hP dd_House_global_50 ?_
          refine gf_h_House_60_globals C hP dd_House_global_53 ?_
          refine lv_aload_n hx hb dd_House_global_56 rfl (lv_at hl 0 rfl) ?_
          refine gf_h_House_0_module C hP dd_House_global_57 ?_
          refine gf_h_House_4_exports C hP dd_House_global_60 ?_
          refine gf_h_House_39_number C hP dd_House_global_63 ?_
          refine lv_iload_n hx hb dd_House_global_66 rfl (lv_at hl 1 rfl) ?_
          obtain ⟨hi, h⟩ := xp_g h
          refine al_h_43 C hP hi dd_House_global_67 ?_
          refine lv_l2i hx hb dd_House_global_68 rfl ?_
          obtain ⟨a1, u2, hq, h⟩ := xp_seq h
          refine xk_goesL (xr_S (As := [.ref (ad 64), .int ((u.2.2.2 7 x0.toNatClampNeg).toInt32)]) (rest := []) C hP hS (ct_House_shown__h64 htr hok hq) kq_House_181 ⟨rfl, rfl, Nat.le_of_ble_eq_true rfl, Nat.le_of_ble_eq_true rfl⟩ ⟨Nat.le_of_ble_eq_true rfl, Nat.le_of_ble_eq_true rfl⟩ hl.1 rfl rfl (Nat.le_of_ble_eq_true rfl) dd_House_global_69) hS (fun H locs hP hS => ?_)
          clear hq
          obtain ⟨rfl, rfl⟩ := xp_r h
          exact xr_lret C hP hS dd_House_global_72
        · have h := xp_f hc h
          obtain ⟨rfl, rfl⟩ := xp_r h
          exact xr_throw C hP hS hne kz_House_3 hl.1 ⟨Nat.le_of_ble_eq_true rfl, Nat.le_of_ble_eq_true rfl, Nat.le_of_ble_eq_true rfl, Nat.le_of_ble_eq_true rfl⟩ dd_House_global_41 dd_House_global_44 dd_House_global_45 dd_House_global_48
abbrev rm_House_at : Room := { frames := 6, cells := 1, slots := 6, locals := 100 }
noncomputable def fm_House_at (fu : Nat) (x0 : Int32) (u : xk_St) : Option ((Int32 ⊕ Nat) × xk_St) :=
  if (u.1 4) = (0 : Int32) then (some (.inr 3, u)) else (if x0 < (0 : Int32) then (some (.inr 3, u)) else ((xs_seq (fm_Memory_holds (x0.toInt64) (1 : Int64) u) fun a1 u2 => if a1 = (0 : Int32) then (some (.inr 3, u2)) else ((xs_seq (fm_Memory_taken fu x0 (1 : Int32) u2) fun a3 u4 => some (.inl (a3.toInt32), u4))))))
set_option maxHeartbeats 4000000 in
set_option maxRecDepth 100000 in
theorem ct_House_at {l : Launch} {D : va_G} {ad : Nat → Nat} {ca : Nat → ClassId} {ads : List Nat} (htr : l.stackTraces = false) (hok : xk_ok (kw_h ad ca) ads) {fu : Nat} {x0 : Int32} {u u' : xk_St} {r : (Int32 ⊕ Nat)} (h : fm_House_at fu x0 u = some (r, u')) :
    ∀ sz, xk_Met l ⟨"ModuleHouse", "at", "(I)I"⟩ (Cond.code ⟨"ModuleHouse", "at", "(I)I"⟩ prog_1_method_14_code 2 (some .int) :: xk_gd) rm_House_at (xk_Pc D kx_cl (kx_ty ca) (kw_h ad ca) ads xk_F sz [.ref (ad 0), .int x0] u) (xk_Qc D kx_cl (kw_h ad ca) ads (xo_i r) u') (xk_A ads sz) := by
  unfold fm_House_at at h
  refine xk_con (by decide) htr hok (Nat.le_of_ble_eq_true rfl) (fun p e s m below meth c ls C hne hl hP => ?_)
  have hx := C.1.1
  have hb := C.1.2.1
  have hS : va_S (xk_A ads s.heap.size) s.heap s.heap [] := va_S.rf
  have hl : lv_has ls 2 [(0, .ref (ad 0)), (1, .int x0)] := hl
  refine lv_aload_n hx hb dd_House_at_0 rfl (lv_at hl 0 rfl) ?_
  refine gf_h_House_0_there C hP dd_House_at_1 ?_
  refine lv_if_eq (tgt := 27) hx hb dd_House_at_4 (by decide) (fun hc => ?_) (fun hc => ?_)
  · have h := xp_t hc h
    obtain ⟨rfl, rfl⟩ := xp_r h
    exact xr_throw C hP hS hne kz_House_3 hl.1 ⟨Nat.le_of_ble_eq_true rfl, Nat.le_of_ble_eq_true rfl, Nat.le_of_ble_eq_true rfl, Nat.le_of_ble_eq_true rfl⟩ dd_House_at_27 dd_House_at_30 dd_House_at_31 dd_House_at_34
  · have h := xp_f hc h
    refine lv_iload_n hx hb dd_House_at_7 rfl (lv_at hl 1 rfl) ?_
    refine lv_if_lt (tgt := 27) hx hb dd_House_at_8 (by decide) (fun hc => ?_) (fun hc => ?_)
    · have h := xp_t hc h
      obtain ⟨rfl, rfl⟩ := xp_r h
      exact xr_throw C hP hS hne kz_House_3 hl.1 ⟨Nat.le_of_ble_eq_true rfl, Nat.le_of_ble_eq_true rfl, Nat.le_of_ble_eq_true rfl, Nat.le_of_ble_eq_true rfl⟩ dd_House_at_27 dd_House_at_30 dd_House_at_31 dd_House_at_34
    · have h := xp_f hc h
      refine lv_aload_n hx hb dd_House_at_11 rfl (lv_at hl 0 rfl) ?_
      refine gf_h_House_0_machine C hP dd_House_at_12 ?_
      refine gf_h_House_60_memory C hP dd_House_at_15 ?_
      refine lv_iload_n hx hb dd_House_at_18 rfl (lv_at hl 1 rfl) ?_
      refine lv_i2l hx hb dd_House_at_19 rfl ?_
      refine lv_lconst (v := 1) hx hb dd_House_at_20 (by decide) ?_
      obtain ⟨a1, u2, hq, h⟩ := xp_seq h
      refine xk_goesI (xr_V (As := [.long (x0.toInt64), .long (1 : Int64)]) (rest := []) C hP hS (ct_Memory_holds htr hok hq) kq_House_202 77 5 rfl rfl ⟨rfl, rfl, Nat.le_of_ble_eq_true rfl, Nat.le_of_ble_eq_true rfl⟩ ⟨Nat.le_of_ble_eq_true rfl, Nat.le_of_ble_eq_true rfl⟩ hl.1 rfl rfl (Nat.le_of_ble_eq_true rfl) dd_House_at_21) hS (fun H locs hP hS => ?_)
      clear hq
      refine lv_if_ne (tgt := 35) hx hb dd_House_at_24 (by decide) (fun hc => ?_) (fun hc => ?_)
      · have h := xp_f hc h
        refine lv_aload_n hx hb dd_House_at_35 rfl (lv_at hl 0 rfl) ?_
        refine gf_h_House_0_machine C hP dd_House_at_36 ?_
        refine gf_h_House_60_memory C hP dd_House_at_39 ?_
        refine lv_iload_n hx hb dd_House_at_42 rfl (lv_at hl 1 rfl) ?_
        refine lv_iconst (v := 1) hx hb dd_House_at_43 (by decide) ?_
        obtain ⟨a3, u4, hq, h⟩ := xp_seq h
        refine xk_goesL (xr_V (As := [.int x0, .int (1 : Int32)]) (rest := []) C hP hS (ct_Memory_taken htr hok hq) kq_House_208 77 5 rfl rfl ⟨rfl, rfl, Nat.le_of_ble_eq_true rfl, Nat.le_of_ble_eq_true rfl⟩ ⟨Nat.le_of_ble_eq_true rfl, Nat.le_of_ble_eq_true rfl⟩ hl.1 rfl rfl (Nat.le_of_ble_eq_true rfl) dd_House_at_44) hS (fun H locs hP hS => ?_)
        clear hq
        refine lv_l2i hx hb dd_House_at_47 rfl ?_
        obtain ⟨rfl, rfl⟩ := xp_r h
        exact xr_iret C hP hS dd_House_at_48
      · have h := xp_t hc h
        obtain ⟨rfl, rfl⟩ := xp_r h
        exact xr_throw C hP hS hne kz_House_3 hl.1 ⟨Nat.le_of_ble_eq_true rfl, Nat.le_of_ble_eq_true rfl, Nat.le_of_ble_eq_true rfl, Nat.le_of_ble_eq_true rfl⟩ dd_House_at_27 dd_House_at_30 dd_House_at_31 dd_House_at_34
abbrev rm_House_look : Room := { frames := 6, cells := 1, slots := 6, locals := 108 }
noncomputable def fm_House_look (fu : Nat) (x0 : Int32) (u : xk_St) : Option ((Int32 ⊕ Nat) × xk_St) :=
  if x0 < (0 : Int32) then (some (.inr 0, u)) else (if x0 ≤ (10 : Int32) then (if x0 = (8 : Int32) then (some (.inl (u.1 0), u)) else (if x0 = (9 : Int32) then (some (.inl (u.1 1), u)) else (if (u.1 4) = (0 : Int32) then (some (.inl (0 : Int32), u)) else (if x0 = (0 : Int32) then (some (.inl (1 : Int32), u)) else if x0 = (1 : Int32) then (some (.inl (u.1 10), u)) else if x0 = (2 : Int32) then (some (.inl (u.1 14), u)) else if x0 = (3 : Int32) then (some (.inl (u.1 33), u)) else if x0 = (4 : Int32) then ((xs_seq (fm_Mod_tablePlaces u) fun a1 u2 => some (.inl a1, u2))) else if x0 = (5 : Int32) then (some (.inl (u.1 2), u)) else if x0 = (6 : Int32) then (some (.inl (u.1 3), u)) else if x0 = (7 : Int32) then ((xs_seq (fm_Heap_collect fu u) fun a3 u4 => some (.inl a3, u4))) else (some (.inl (u.1 7), u)))))) else (some (.inr 0, u)))
set_option maxHeartbeats 4000000 in
set_option maxRecDepth 100000 in
theorem ct_House_look {l : Launch} {D : va_G} {ad : Nat → Nat} {ca : Nat → ClassId} {ads : List Nat} (htr : l.stackTraces = false) (hok : xk_ok (kw_h ad ca) ads) {fu : Nat} {x0 : Int32} {u u' : xk_St} {r : (Int32 ⊕ Nat)} (h : fm_House_look fu x0 u = some (r, u')) :
    ∀ sz, xk_Met l ⟨"ModuleHouse", "look", "(I)I"⟩ (Cond.code ⟨"ModuleHouse", "look", "(I)I"⟩ prog_1_method_15_code 2 (some .int) :: xk_gd) rm_House_look (xk_Pc D kx_cl (kx_ty ca) (kw_h ad ca) ads xk_F sz [.ref (ad 0), .int x0] u) (xk_Qc D kx_cl (kw_h ad ca) ads (xo_i r) u') (xk_A ads sz) := by
  unfold fm_House_look at h
  refine xk_con (by decide) htr hok (Nat.le_of_ble_eq_true rfl) (fun p e s m below meth c ls C hne hl hP => ?_)
  have hx := C.1.1
  have hb := C.1.2.1
  have hS : va_S (xk_A ads s.heap.size) s.heap s.heap [] := va_S.rf
  have hl : lv_has ls 2 [(0, .ref (ad 0)), (1, .int x0)] := hl
  refine lv_iload_n hx hb dd_House_look_0 rfl (lv_at hl 1 rfl) ?_
  refine lv_if_lt (tgt := 10) hx hb dd_House_look_1 (by decide) (fun hc => ?_) (fun hc => ?_)
  · have h := xp_t hc h
    obtain ⟨rfl, rfl⟩ := xp_r h
    exact xr_throw C hP hS hne kz_House_0 hl.1 ⟨Nat.le_of_ble_eq_true rfl, Nat.le_of_ble_eq_true rfl, Nat.le_of_ble_eq_true rfl, Nat.le_of_ble_eq_true rfl⟩ dd_House_look_10 dd_House_look_13 dd_House_look_14 dd_House_look_17
  · have h := xp_f hc h
    refine lv_iload_n hx hb dd_House_look_4 rfl (lv_at hl 1 rfl) ?_
    refine lv_bipush (v := 10) hx hb dd_House_look_5 (by decide) ?_
    refine lv_icmp_le (tgt := 18) hx hb dd_House_look_7 (by decide) (fun hc => ?_) (fun hc => ?_)
    · have h := xp_t hc h
      refine lv_iload_n hx hb dd_House_look_18 rfl (lv_at hl 1 rfl) ?_
      refine lv_bipush (v := 8) hx hb dd_House_look_19 (by decide) ?_
      refine lv_icmp_ne (tgt := 29) hx hb dd_House_look_21 (by decide) (fun hc => ?_) (fun hc => ?_)
      · have h := xp_f hc h
        refine lv_iload_n hx hb dd_House_look_29 rfl (lv_at hl 1 rfl) ?_
        refine lv_bipush (v := 9) hx hb dd_House_look_30 (by decide) ?_
        refine lv_icmp_ne (tgt := 40) hx hb dd_House_look_32 (by decide) (fun hc => ?_) (fun hc => ?_)
        · have h := xp_f hc h
          refine lv_aload_n hx hb dd_House_look_40 rfl (lv_at hl 0 rfl) ?_
          refine gf_h_House_0_there C hP dd_House_look_41 ?_
          refine lv_if_ne (tgt := 49) hx hb dd_House_look_44 (by decide) (fun hc => ?_) (fun hc => ?_)
          · have h := xp_f hc h
            refine lv_iload_n hx hb dd_House_look_49 rfl (lv_at hl 1 rfl) ?_
            by_cases hc0 : x0 = (0 : Int32)
            · have h := xp_t hc0 h
              refine lv_tableIn (off := 46) (tgt := 96) hx hb dd_House_look_50 (by rw [hc0]; decide) (by rw [hc0]; decide) (by rw [hc0]; rfl) (by decide) ?_
              refine lv_iconst (v := 1) hx hb dd_House_look_96 (by decide) ?_
              refine lv_goto (tgt := 200) hx hb dd_House_look_97 (by decide) ?_
              obtain ⟨rfl, rfl⟩ := xp_r h
              exact xr_iret C hP hS dd_House_look_200
            have h := xp_f hc0 h
            by_cases hc1 : x0 = (1 : Int32)
            · have h := xp_t hc1 h
              refine lv_tableIn (off := 50) (tgt := 100) hx hb dd_House_look_50 (by rw [hc1]; decide) (by rw [hc1]; decide) (by rw [hc1]; rfl) (by decide) ?_
              refine lv_aload_n hx hb dd_House_look_100 rfl (lv_at hl 0 rfl) ?_
              refine gf_h_House_0_module C hP dd_House_look_101 ?_
              refine gf_h_House_4_functions C hP dd_House_look_104 ?_
              refine gf_h_House_19_count C hP dd_House_look_107 ?_
              refine lv_goto (tgt := 200) hx hb dd_House_look_110 (by decide) ?_
              obtain ⟨rfl, rfl⟩ := xp_r h
              exact xr_iret C hP hS dd_House_look_200
            have h := xp_f hc1 h
            by_cases hc2 : x0 = (2 : Int32)
            · have h := xp_t hc2 h
              refine lv_tableIn (off := 63) (tgt := 113) hx hb dd_House_look_50 (by rw [hc2]; decide) (by rw [hc2]; decide) (by rw [hc2]; rfl) (by decide) ?_
              refine lv_aload_n hx hb dd_House_look_113 rfl (lv_at hl 0 rfl) ?_
              refine gf_h_House_0_module C hP dd_House_look_114 ?_
              refine gf_h_House_4_exports C hP dd_House_look_117 ?_
              refine gf_h_House_39_count C hP dd_House_look_120 ?_
              refine lv_goto (tgt := 200) hx hb dd_House_look_123 (by decide) ?_
              obtain ⟨rfl, rfl⟩ := xp_r h
              exact xr_iret C hP hS dd_House_look_200
            have h := xp_f hc2 h
            by_cases hc3 : x0 = (3 : Int32)
            · have h := xp_t hc3 h
              refine lv_tableIn (off := 76) (tgt := 126) hx hb dd_House_look_50 (by rw [hc3]; decide) (by rw [hc3]; decide) (by rw [hc3]; rfl) (by decide) ?_
              refine lv_aload_n hx hb dd_House_look_126 rfl (lv_at hl 0 rfl) ?_
              refine gf_h_House_0_machine C hP dd_House_look_127 ?_
              refine gf_h_House_60_memory C hP dd_House_look_130 ?_
              refine gf_h_House_77_pages C hP dd_House_look_133 ?_
              refine lv_goto (tgt := 200) hx hb dd_House_look_136 (by decide) ?_
              obtain ⟨rfl, rfl⟩ := xp_r h
              exact xr_iret C hP hS dd_House_look_200
            have h := xp_f hc3 h
            by_cases hc4 : x0 = (4 : Int32)
            · have h := xp_t hc4 h
              refine lv_tableIn (off := 89) (tgt := 139) hx hb dd_House_look_50 (by rw [hc4]; decide) (by rw [hc4]; decide) (by rw [hc4]; rfl) (by decide) ?_
              refine lv_aload_n hx hb dd_House_look_139 rfl (lv_at hl 0 rfl) ?_
              refine gf_h_House_0_module C hP dd_House_look_140 ?_
              obtain ⟨a1, u2, hq, h⟩ := xp_seq h
              refine xk_goesI (xr_V (As := []) (rest := []) C hP hS (ct_Mod_tablePlaces htr hok hq) kq_House_215 4 6 rfl rfl ⟨rfl, rfl, Nat.le_of_ble_eq_true rfl, Nat.le_of_ble_eq_true rfl⟩ ⟨Nat.le_of_ble_eq_true rfl, Nat.le_of_ble_eq_true rfl⟩ hl.1 rfl rfl (Nat.le_of_ble_eq_true rfl) dd_House_look_143) hS (fun H locs hP hS => ?_)
              clear hq
              refine lv_goto (tgt := 200) hx hb dd_House_look_146 (by decide) ?_
              obtain ⟨rfl, rfl⟩ := xp_r h
              exact xr_iret C hP hS dd_House_look_200
            have h := xp_f hc4 h
            by_cases hc5 : x0 = (5 : Int32)
            · have h := xp_t hc5 h
              refine lv_tableIn (off := 99) (tgt := 149) hx hb dd_House_look_50 (by rw [hc5]; decide) (by rw [hc5]; decide) (by rw [hc5]; rfl) (by decide) ?_
              refine lv_aload_n hx hb dd_House_look_149 rfl (lv_at hl 0 rfl) ?_
              refine gf_h_House_0_resultCount C hP dd_House_look_150 ?_
              refine lv_goto (tgt := 200) hx hb dd_House_look_153 (by decide) ?_
              obtain ⟨rfl, rfl⟩ := xp_r h
              exact xr_iret C hP hS dd_House_look_200
            have h := xp_f hc5 h
            by_cases hc6 : x0 = (6 : Int32)
            · have h := xp_t hc6 h
              refine lv_tableIn (off := 106) (tgt := 156) hx hb dd_House_look_50 (by rw [hc6]; decide) (by rw [hc6]; decide) (by rw [hc6]; rfl) (by decide) ?_
              refine lv_aload_n hx hb dd_House_look_156 rfl (lv_at hl 0 rfl) ?_
              refine gf_h_House_0_turnsLeft C hP dd_House_look_157 ?_
              refine lv_goto (tgt := 200) hx hb dd_House_look_160 (by decide) ?_
              obtain ⟨rfl, rfl⟩ := xp_r h
              exact xr_iret C hP hS dd_House_look_200
            have h := xp_f hc6 h
            by_cases hc7 : x0 = (7 : Int32)
            · have h := xp_t hc7 h
              refine lv_tableIn (off := 113) (tgt := 163) hx hb dd_House_look_50 (by rw [hc7]; decide) (by rw [hc7]; decide) (by rw [hc7]; rfl) (by decide) ?_
              refine lv_aload_n hx hb dd_House_look_163 rfl (lv_at hl 0 rfl) ?_
              refine gf_h_House_0_machine C hP dd_House_look_164 ?_
              refine gf_h_House_60_heap C hP dd_House_look_167 ?_
              refine lv_aload_n hx hb dd_House_look_170 rfl (lv_at hl 0 rfl) ?_
              refine gf_h_House_0_machine C hP dd_House_look_171 ?_
              refine gf_h_House_60_values C hP dd_House_look_174 ?_
              refine lv_aload_n hx hb dd_House_look_177 rfl (lv_at hl 0 rfl) ?_
              refine gf_h_House_0_machine C hP dd_House_look_178 ?_
              refine gf_h_House_60_globals C hP dd_House_look_181 ?_
              obtain ⟨a3, u4, hq, h⟩ := xp_seq h
              refine xk_goesI (xr_V (As := [.ref (ad 61), .ref (ad 64)]) (rest := []) C hP hS (ct_Heap_collect htr hok hq) kq_House_222 67 3 rfl rfl ⟨rfl, rfl, Nat.le_of_ble_eq_true rfl, Nat.le_of_ble_eq_true rfl⟩ ⟨Nat.le_of_ble_eq_true rfl, Nat.le_of_ble_eq_true rfl⟩ hl.1 rfl rfl (Nat.le_of_ble_eq_true rfl) dd_House_look_184) hS (fun H locs hP hS => ?_)
              clear hq
              refine lv_goto (tgt := 200) hx hb dd_House_look_187 (by decide) ?_
              obtain ⟨rfl, rfl⟩ := xp_r h
              exact xr_iret C hP hS dd_House_look_200
            have h := xp_f hc7 h
            have hd0 := lv_neT hc0 (a := 0) (by decide)
            have hd1 := lv_neT hc1 (a := 1) (by decide)
            have hd2 := lv_neT hc2 (a := 2) (by decide)
            have hd3 := lv_neT hc3 (a := 3) (by decide)
            have hd4 := lv_neT hc4 (a := 4) (by decide)
            have hd5 := lv_neT hc5 (a := 5) (by decide)
            have hd6 := lv_neT hc6 (a := 6) (by decide)
            have hd7 := lv_neT hc7 (a := 7) (by decide)
            refine lv_tableOut (tgt := 190) hx hb dd_House_look_50 (by omega) (by decide) ?_
            refine lv_aload_n hx hb dd_House_look_190 rfl (lv_at hl 0 rfl) ?_
            refine gf_h_House_0_module C hP dd_House_look_191 ?_
            refine gf_h_House_4_types C hP dd_House_look_194 ?_
            refine gf_h_House_6_count C hP dd_House_look_197 ?_
            obtain ⟨rfl, rfl⟩ := xp_r h
            exact xr_iret C hP hS dd_House_look_200
          · have h := xp_t hc h
            refine lv_iconst (v := 0) hx hb dd_House_look_47 (by decide) ?_
            obtain ⟨rfl, rfl⟩ := xp_r h
            exact xr_iret C hP hS dd_House_look_48
        · have h := xp_t hc h
          refine lv_aload_n hx hb dd_House_look_35 rfl (lv_at hl 0 rfl) ?_
          refine gf_h_House_0_argumentCount C hP dd_House_look_36 ?_
          obtain ⟨rfl, rfl⟩ := xp_r h
          exact xr_iret C hP hS dd_House_look_39
      · have h := xp_t hc h
        refine lv_aload_n hx hb dd_House_look_24 rfl (lv_at hl 0 rfl) ?_
        refine gf_h_House_0_tapeLength C hP dd_House_look_25 ?_
        obtain ⟨rfl, rfl⟩ := xp_r h
        exact xr_iret C hP hS dd_House_look_28
    · have h := xp_f hc h
      obtain ⟨rfl, rfl⟩ := xp_r h
      exact xr_throw C hP hS hne kz_House_0 hl.1 ⟨Nat.le_of_ble_eq_true rfl, Nat.le_of_ble_eq_true rfl, Nat.le_of_ble_eq_true rfl, Nat.le_of_ble_eq_true rfl⟩ dd_House_look_10 dd_House_look_13 dd_House_look_14 dd_House_look_17
abbrev rm_Mod_clear : Room := { frames := 1, cells := 1, slots := 6, locals := 0 }
noncomputable def fm_Mod_clear (u : xk_St) : Option (Unit × xk_St) :=
  (xs_let (xs_I u 7 (0 : Int32)) fun u1 => xs_let (xs_I u1 8 (0 : Int32)) fun u2 => xs_let (xs_I u2 9 (0 : Int32)) fun u3 => xs_let (xs_I u3 10 (0 : Int32)) fun u4 => xs_let (xs_I u4 11 (0 : Int32)) fun u5 => xs_let (xs_I u5 12 (0 : Int32)) fun u6 => xs_let (xs_I u6 13 (0 : Int32)) fun u7 => xs_let (xs_I u7 14 (0 : Int32)) fun u8 => xs_let (xs_I u8 15 (0 : Int32)) fun u9 => xs_let (xs_I u9 16 (0 : Int32)) fun u10 => xs_let (xs_I u10 5 (0 : Int32)) fun u11 => xs_let (xs_I u11 6 (-1 : Int32)) fun u12 => some ((()), u12))
set_option maxHeartbeats 4000000 in
set_option maxRecDepth 100000 in
theorem ct_Mod_clear {l : Launch} {D : va_G} {ad : Nat → Nat} {ca : Nat → ClassId} {ads : List Nat} (htr : l.stackTraces = false) (hok : xk_ok (kw_h ad ca) ads) {u u' : xk_St} {r : Unit} (h : fm_Mod_clear u = some (r, u')) :
    ∀ sz, xk_Met l ⟨"ModuleHouse$ReadModule", "clear", "()V"⟩ (Cond.code ⟨"ModuleHouse$ReadModule", "clear", "()V"⟩ prog_8_method_2_code 1 none :: xk_gd) rm_Mod_clear (xk_Pc D kx_cl (kx_ty ca) (kw_h ad ca) ads xk_F sz [.ref (ad 4)] u) (xk_Qc D kx_cl (kw_h ad ca) ads (xo_v (.inl r)) u') (xk_A ads sz) := by
  unfold fm_Mod_clear at h
  refine xk_con (by decide) htr hok (Nat.le_of_ble_eq_true rfl) (fun p e s m below meth c ls C hne hl hP => ?_)
  have hx := C.1.1
  have hb := C.1.2.1
  have hS : va_S (xk_A ads s.heap.size) s.heap s.heap [] := va_S.rf
  have hl : lv_has ls 1 [(0, .ref (ad 4))] := hl
  refine lv_aload_n hx hb dd_Mod_clear_0 rfl (lv_at hl 0 rfl) ?_
  refine gf_h_Mod_4_types C hP dd_Mod_clear_1 ?_
  refine lv_iconst (v := 0) hx hb dd_Mod_clear_4 (by decide) ?_
  refine pf_h_Mod_6_count C hP hS dd_Mod_clear_5 (fun H locs hP hS => ?_)
  obtain ⟨u1, eu1, h⟩ := xp_let h
  rw [← eu1] at hP
  refine lv_aload_n hx hb dd_Mod_clear_8 rfl (lv_at hl 0 rfl) ?_
  refine gf_h_Mod_4_code C hP dd_Mod_clear_9 ?_
  refine lv_iconst (v := 0) hx hb dd_Mod_clear_12 (by decide) ?_
  refine pf_h_Mod_12_size C hP hS dd_Mod_clear_13 (fun H locs hP hS => ?_)
  obtain ⟨u2, eu2, h⟩ := xp_let h
  rw [← eu2] at hP
  refine lv_aload_n hx hb dd_Mod_clear_16 rfl (lv_at hl 0 rfl) ?_
  refine gf_h_Mod_4_code C hP dd_Mod_clear_17 ?_
  refine lv_iconst (v := 0) hx hb dd_Mod_clear_20 (by decide) ?_
  refine pf_h_Mod_12_numbersSize C hP hS dd_Mod_clear_21 (fun H locs hP hS => ?_)
  obtain ⟨u3, eu3, h⟩ := xp_let h
  rw [← eu3] at hP
  refine lv_aload_n hx hb dd_Mod_clear_24 rfl (lv_at hl 0 rfl) ?_
  refine gf_h_Mod_4_functions C hP dd_Mod_clear_25 ?_
  refine lv_iconst (v := 0) hx hb dd_Mod_clear_28 (by decide) ?_
  refine pf_h_Mod_19_count C hP hS dd_Mod_clear_29 (fun H locs hP hS => ?_)
  obtain ⟨u4, eu4, h⟩ := xp_let h
  rw [← eu4] at hP
  refine lv_aload_n hx hb dd_Mod_clear_32 rfl (lv_at hl 0 rfl) ?_
  refine gf_h_Mod_4_tables C hP dd_Mod_clear_33 ?_
  refine lv_iconst (v := 0) hx hb dd_Mod_clear_36 (by decide) ?_
  refine pf_h_Mod_24_count C hP hS dd_Mod_clear_37 (fun H locs hP hS => ?_)
  obtain ⟨u5, eu5, h⟩ := xp_let h
  rw [← eu5] at hP
  refine lv_aload_n hx hb dd_Mod_clear_40 rfl (lv_at hl 0 rfl) ?_
  refine gf_h_Mod_4_memories C hP dd_Mod_clear_41 ?_
  refine lv_iconst (v := 0) hx hb dd_Mod_clear_44 (by decide) ?_
  refine pf_h_Mod_29_count C hP hS dd_Mod_clear_45 (fun H locs hP hS => ?_)
  obtain ⟨u6, eu6, h⟩ := xp_let h
  rw [← eu6] at hP
  refine lv_aload_n hx hb dd_Mod_clear_48 rfl (lv_at hl 0 rfl) ?_
  refine gf_h_Mod_4_globals C hP dd_Mod_clear_49 ?_
  refine lv_iconst (v := 0) hx hb dd_Mod_clear_52 (by decide) ?_
  refine pf_h_Mod_34_count C hP hS dd_Mod_clear_53 (fun H locs hP hS => ?_)
  obtain ⟨u7, eu7, h⟩ := xp_let h
  rw [← eu7] at hP
  refine lv_aload_n hx hb dd_Mod_clear_56 rfl (lv_at hl 0 rfl) ?_
  refine gf_h_Mod_4_exports C hP dd_Mod_clear_57 ?_
  refine lv_iconst (v := 0) hx hb dd_Mod_clear_60 (by decide) ?_
  refine pf_h_Mod_39_count C hP hS dd_Mod_clear_61 (fun H locs hP hS => ?_)
  obtain ⟨u8, eu8, h⟩ := xp_let h
  rw [← eu8] at hP
  refine lv_aload_n hx hb dd_Mod_clear_64 rfl (lv_at hl 0 rfl) ?_
  refine gf_h_Mod_4_elements C hP dd_Mod_clear_65 ?_
  refine lv_iconst (v := 0) hx hb dd_Mod_clear_68 (by decide) ?_
  refine pf_h_Mod_44_count C hP hS dd_Mod_clear_69 (fun H locs hP hS => ?_)
  obtain ⟨u9, eu9, h⟩ := xp_let h
  rw [← eu9] at hP
  refine lv_aload_n hx hb dd_Mod_clear_72 rfl (lv_at hl 0 rfl) ?_
  refine gf_h_Mod_4_data C hP dd_Mod_clear_73 ?_
  refine lv_iconst (v := 0) hx hb dd_Mod_clear_76 (by decide) ?_
  refine pf_h_Mod_49_count C hP hS dd_Mod_clear_77 (fun H locs hP hS => ?_)
  obtain ⟨u10, eu10, h⟩ := xp_let h
  rw [← eu10] at hP
  refine lv_aload_n hx hb dd_Mod_clear_80 rfl (lv_at hl 0 rfl) ?_
  refine lv_iconst (v := 0) hx hb dd_Mod_clear_81 (by decide) ?_
  refine pf_h_Mod_4_bodies C hP hS dd_Mod_clear_82 (fun H locs hP hS => ?_)
  obtain ⟨u11, eu11, h⟩ := xp_let h
  rw [← eu11] at hP
  refine lv_aload_n hx hb dd_Mod_clear_85 rfl (lv_at hl 0 rfl) ?_
  refine lv_iconst (v := (-1)) hx hb dd_Mod_clear_86 (by decide) ?_
  refine pf_h_Mod_4_starter C hP hS dd_Mod_clear_87 (fun H locs hP hS => ?_)
  obtain ⟨u12, eu12, h⟩ := xp_let h
  rw [← eu12] at hP
  obtain ⟨rfl, rfl⟩ := xp_r h
  exact xr_vret C hP hS dd_Mod_clear_90
abbrev rm_Heap_clear : Room := { frames := 1, cells := 1, slots := 6, locals := 0 }
noncomputable def jb_Heap_clear_27 (fu : Nat) : Nat → Int32 → xk_St → Option (Unit × xk_St)
  | 0 => fun _ _ => none
  | n + 1 => fun b1 u =>
    xs_let (jb_Heap_clear_27 fu  n) fun k27 =>
    if (2000 : Int32) ≤ b1 then (some ((()), u)) else ((if b1 < 0 ∨ 2000 ≤ b1.toNatClampNeg then none else xs_let (xs_A u 44 b1.toNatClampNeg ((2000 : Int32) - b1)) fun u3 => xs_let (b1 + (1 : Int32)) fun a4 => k27 a4 u3))
noncomputable def fm_Heap_clear (fu : Nat) (u : xk_St) : Option (Unit × xk_St) :=
  (xs_let (xs_I u 32 (0 : Int32)) fun u1 => if (2000 : Int32) ≤ (u1.1 30) then (some ((()), u1)) else ((xs_let (xs_I u1 30 (2000 : Int32)) fun u2 => jb_Heap_clear_27 fu fu (0 : Int32) u2)))
set_option maxHeartbeats 4000000 in
set_option maxRecDepth 100000 in
theorem wj_Heap_clear_27 {p : Program} {l : Launch} {e : Env} {s : State} {m : MethodId} {args : Array Value} {below : List Frame} {meth : Method} {c : Code} {D : va_G} {ad : Nat → Nat} {ca : Nat → ClassId} {ads : List Nat} {fu : Nat} (htr : l.stackTraces = false) (C : xk_C D kx_cl (kx_ty ca) (kw_h ad ca) ads "ModuleHouse$Heap" prog_4_method_2_code 2 none p e s m args meth c) (hne : c.exceptionTable.isEmpty = true) {u' : xk_St} {r : Unit} : ∀ {n : Nat} {b1 : Int32} {u : xk_St} {H : Heap} {locs : List Loc} {ls : Array Slot} (h : jb_Heap_clear_27 fu  n b1 u = some (r, u')) (hP : va_P D kx_cl (kw_h ad ca u) H) (hS : va_S (xk_A ads s.heap.size) s.heap H locs) (hl : lv_has ls 2 [(0, .ref (ad 67)), (1, .int b1)]), W p l e rm_Heap_clear s m args below meth c H locs 0 0 (xk_MQ below (xk_Qc D kx_cl (kw_h ad ca) ads (xo_v (.inl r)) u') args s (xk_A ads s.heap.size)) (F0 m 27 ls []) := by
  intro n
  have hx := C.1.1
  have hb := C.1.2.1
  have hok := C.2.2.1
  induction n with
  | zero =>
    intro _ u H locs ls h
    have h : none = some (r, u') := h
    cases h
  | succ n ih =>
    intro b1 u H locs ls h hP hS hl
    unfold jb_Heap_clear_27 at h
    obtain ⟨k27, ek27, h⟩ := xp_let h
    have hk27 : ∀ (c0 : Int32) (u : xk_St) (H : Heap) (locs : List Loc) (ls : Array Slot), k27 c0 u = some (r, u') → va_P D kx_cl (kw_h ad ca u) H → va_S (xk_A ads s.heap.size) s.heap H locs → lv_has ls 2 [(0, .ref (ad 67)), (1, .int c0)] → W p l e rm_Heap_clear s m args below meth c H locs 0 0 (xk_MQ below (xk_Qc D kx_cl (kw_h ad ca) ads (xo_v (.inl r)) u') args s (xk_A ads s.heap.size)) (F0 m 27 ls []) := by
      intro c0 u H locs ls h hP hS hl
      subst ek27
      exact ih h hP hS hl
    clear ih ek27
    refine lv_iload_n hx hb dd_Heap_clear_27 rfl (lv_at hl 1 rfl) ?_
    refine lv_sipush (v := 2000) hx hb dd_Heap_clear_28 (by decide) ?_
    refine lv_icmp_ge (tgt := 51) hx hb dd_Heap_clear_31 (by decide) (fun hc => ?_) (fun hc => ?_)
    · have h := xp_t hc h
      obtain ⟨rfl, rfl⟩ := xp_r h
      exact xr_vret C hP hS dd_Heap_clear_51
    · have h := xp_f hc h
      refine lv_aload_n hx hb dd_Heap_clear_34 rfl (lv_at hl 0 rfl) ?_
      refine gf_h_Heap_67_free C hP dd_Heap_clear_35 ?_
      refine lv_iload_n hx hb dd_Heap_clear_38 rfl (lv_at hl 1 rfl) ?_
      refine lv_sipush (v := 2000) hx hb dd_Heap_clear_39 (by decide) ?_
      refine lv_iload_n hx hb dd_Heap_clear_42 rfl (lv_at hl 1 rfl) ?_
      refine lv_isub hx hb dd_Heap_clear_43 ?_
      obtain ⟨hi, h⟩ := xp_g h
      refine as_h_75 C hP hS hi dd_Heap_clear_44 (fun H locs hP hS => ?_)
      obtain ⟨u3, eu3, h⟩ := xp_let h
      rw [← eu3] at hP
      obtain ⟨a4, ea4, h⟩ := xp_let h
      refine lv_iinc (v := a4) (lv' := [(1, .int a4), (0, .ref (ad 67))]) hx hb dd_Heap_clear_45 hl (k := 1) rfl (by rw [ea4]; first | rfl | decide) (by decide) rfl (fun ls hl => ?_)
      refine lv_goto (tgt := 27) hx hb dd_Heap_clear_48 (by decide) ?_
      exact hk27 a4 u3 _ _ _ h hP hS (lv_sub hl [1, 0] rfl)
set_option maxHeartbeats 4000000 in
set_option maxRecDepth 100000 in
theorem ct_Heap_clear {l : Launch} {D : va_G} {ad : Nat → Nat} {ca : Nat → ClassId} {ads : List Nat} (htr : l.stackTraces = false) (hok : xk_ok (kw_h ad ca) ads) {fu : Nat} {u u' : xk_St} {r : Unit} (h : fm_Heap_clear fu u = some (r, u')) :
    ∀ sz, xk_Met l ⟨"ModuleHouse$Heap", "clear", "()V"⟩ (Cond.code ⟨"ModuleHouse$Heap", "clear", "()V"⟩ prog_4_method_2_code 2 none :: xk_gd) rm_Heap_clear (xk_Pc D kx_cl (kx_ty ca) (kw_h ad ca) ads xk_F sz [.ref (ad 67)] u) (xk_Qc D kx_cl (kw_h ad ca) ads (xo_v (.inl r)) u') (xk_A ads sz) := by
  unfold fm_Heap_clear at h
  refine xk_con (by decide) htr hok (Nat.le_of_ble_eq_true rfl) (fun p e s m below meth c ls C hne hl hP => ?_)
  have hx := C.1.1
  have hb := C.1.2.1
  have hS : va_S (xk_A ads s.heap.size) s.heap s.heap [] := va_S.rf
  have hl : lv_has ls 2 [(0, .ref (ad 67))] := hl
  refine lv_aload_n hx hb dd_Heap_clear_0 rfl (lv_at hl 0 rfl) ?_
  refine gf_h_Heap_67_cells C hP dd_Heap_clear_1 ?_
  refine lv_iconst (v := 0) hx hb dd_Heap_clear_4 (by decide) ?_
  refine pf_h_Heap_68_top C hP hS dd_Heap_clear_5 (fun H locs hP hS => ?_)
  obtain ⟨u1, eu1, h⟩ := xp_let h
  rw [← eu1] at hP
  refine lv_aload_n hx hb dd_Heap_clear_8 rfl (lv_at hl 0 rfl) ?_
  refine gf_h_Heap_67_freeCount C hP dd_Heap_clear_9 ?_
  refine lv_sipush (v := 2000) hx hb dd_Heap_clear_12 (by decide) ?_
  refine lv_icmp_ge (tgt := 51) hx hb dd_Heap_clear_15 (by decide) (fun hc => ?_) (fun hc => ?_)
  · have h := xp_t hc h
    obtain ⟨rfl, rfl⟩ := xp_r h
    exact xr_vret C hP hS dd_Heap_clear_51
  · have h := xp_f hc h
    refine lv_aload_n hx hb dd_Heap_clear_18 rfl (lv_at hl 0 rfl) ?_
    refine lv_sipush (v := 2000) hx hb dd_Heap_clear_19 (by decide) ?_
    refine pf_h_Heap_67_freeCount C hP hS dd_Heap_clear_22 (fun H locs hP hS => ?_)
    obtain ⟨u2, eu2, h⟩ := xp_let h
    rw [← eu2] at hP
    refine lv_iconst (v := 0) hx hb dd_Heap_clear_25 (by decide) ?_
    refine lv_istore_n (lv' := [(1, .int (0 : Int32)), (0, .ref (ad 67))]) hx hb dd_Heap_clear_26 rfl hl (by decide) rfl (fun ls hl => ?_)
    exact wj_Heap_clear_27 htr C hne h hP hS (lv_sub hl [1, 0] rfl)
abbrev rm_Arrays_fill_ABIIB__h78 : Room := { frames := 7, cells := 1, slots := 6, locals := 122 }
noncomputable def jb_Arrays_fill_ABIIB__h78_10 (fu : Nat) : Nat → Int32 → Int32 → Int32 → xk_St → Option (Unit × xk_St)
  | 0 => fun _ _ _ _ => none
  | n + 1 => fun b2 b3 b4 u =>
    xs_let (jb_Arrays_fill_ABIIB__h78_10 fu  n) fun k10 =>
    if b2 ≤ b4 then (some ((()), u)) else ((if b4 < 0 ∨ 65536 ≤ b4.toNatClampNeg then none else xs_let (xs_A u 46 b4.toNatClampNeg (vp_nar .byte b3)) fun u2 => xs_let (b4 + (1 : Int32)) fun a3 => k10 b2 b3 a3 u2))
noncomputable def fm_Arrays_fill_ABIIB__h78 (fu : Nat) (x1 : Int32) (x2 : Int32) (x3 : Int32) (u : xk_St) : Option (Unit × xk_St) :=
  (xs_seq (fm_Arrays_rangeCheck__h (65536 : Int32) x1 x2 u) fun _ u1 => jb_Arrays_fill_ABIIB__h78_10 fu fu x2 x3 x1 u1)
set_option maxHeartbeats 4000000 in
set_option maxRecDepth 100000 in
theorem wj_Arrays_fill_ABIIB__h78_10 {p : Program} {l : Launch} {e : Env} {s : State} {m : MethodId} {args : Array Value} {below : List Frame} {meth : Method} {c : Code} {D : va_G} {ad : Nat → Nat} {ca : Nat → ClassId} {ads : List Nat} {fu : Nat} (htr : l.stackTraces = false) (C : xk_C D kx_cl (kx_ty ca) (kw_h ad ca) ads "java/util/Arrays" prog_31_method_110_code 5 none p e s m args meth c) (hne : c.exceptionTable.isEmpty = true) {u' : xk_St} {r : Unit} : ∀ {n : Nat} {b2 : Int32} {b3 : Int32} {b4 : Int32} {u : xk_St} {H : Heap} {locs : List Loc} {ls : Array Slot} (h : jb_Arrays_fill_ABIIB__h78_10 fu  n b2 b3 b4 u = some (r, u')) (hP : va_P D kx_cl (kw_h ad ca u) H) (hS : va_S (xk_A ads s.heap.size) s.heap H locs) (hl : lv_has ls 5 [(0, .ref (ad 78)), (2, .int b2), (3, .int b3), (4, .int b4)]), W p l e rm_Arrays_fill_ABIIB__h78 s m args below meth c H locs 0 0 (xk_MQ below (xk_Qc D kx_cl (kw_h ad ca) ads (xo_v (.inl r)) u') args s (xk_A ads s.heap.size)) (F0 m 10 ls []) := by
  intro n
  have hx := C.1.1
  have hb := C.1.2.1
  have hok := C.2.2.1
  induction n with
  | zero =>
    intro _ _ _ u H locs ls h
    have h : none = some (r, u') := h
    cases h
  | succ n ih =>
    intro b2 b3 b4 u H locs ls h hP hS hl
    unfold jb_Arrays_fill_ABIIB__h78_10 at h
    obtain ⟨k10, ek10, h⟩ := xp_let h
    have hk10 : ∀ (c0 : Int32) (c1 : Int32) (c2 : Int32) (u : xk_St) (H : Heap) (locs : List Loc) (ls : Array Slot), k10 c0 c1 c2 u = some (r, u') → va_P D kx_cl (kw_h ad ca u) H → va_S (xk_A ads s.heap.size) s.heap H locs → lv_has ls 5 [(0, .ref (ad 78)), (2, .int c0), (3, .int c1), (4, .int c2)] → W p l e rm_Arrays_fill_ABIIB__h78 s m args below meth c H locs 0 0 (xk_MQ below (xk_Qc D kx_cl (kw_h ad ca) ads (xo_v (.inl r)) u') args s (xk_A ads s.heap.size)) (F0 m 10 ls []) := by
      intro c0 c1 c2 u H locs ls h hP hS hl
      subst ek10
      exact ih h hP hS hl
    clear ih ek10
    refine lv_iload hx hb dd_Arrays_fill_ABIIB_10 (lv_at hl 3 rfl) ?_
    refine lv_iload_n hx hb dd_Arrays_fill_ABIIB_12 rfl (lv_at hl 1 rfl) ?_
    refine lv_icmp_ge (tgt := 27) hx hb dd_Arrays_fill_ABIIB_13 (by decide) (fun hc => ?_) (fun hc => ?_)
    · have h := xp_t hc h
      obtain ⟨rfl, rfl⟩ := xp_r h
      exact xr_vret C hP hS dd_Arrays_fill_ABIIB_27
    · have h := xp_f hc h
      refine lv_aload_n hx hb dd_Arrays_fill_ABIIB_16 rfl (lv_at hl 0 rfl) ?_
      refine lv_iload hx hb dd_Arrays_fill_ABIIB_17 (lv_at hl 3 rfl) ?_
      refine lv_iload_n hx hb dd_Arrays_fill_ABIIB_19 rfl (lv_at hl 2 rfl) ?_
      obtain ⟨hi, h⟩ := xp_g h
      refine as_h_78 C hP hS hi dd_Arrays_fill_ABIIB_20 (fun H locs hP hS => ?_)
      obtain ⟨u2, eu2, h⟩ := xp_let h
      rw [← eu2] at hP
      obtain ⟨a3, ea3, h⟩ := xp_let h
      refine lv_iinc (v := a3) (lv' := [(4, .int a3), (0, .ref (ad 78)), (2, .int b2), (3, .int b3)]) hx hb dd_Arrays_fill_ABIIB_21 hl (k := 3) rfl (by rw [ea3]; first | rfl | decide) (by decide) rfl (fun ls hl => ?_)
      refine lv_goto (tgt := 10) hx hb dd_Arrays_fill_ABIIB_24 (by decide) ?_
      exact hk10 b2 b3 a3 u2 _ _ _ h hP hS (lv_sub hl [1, 2, 3, 0] rfl)
set_option maxHeartbeats 4000000 in
set_option maxRecDepth 100000 in
theorem ct_Arrays_fill_ABIIB__h78 {l : Launch} {D : va_G} {ad : Nat → Nat} {ca : Nat → ClassId} {ads : List Nat} (htr : l.stackTraces = false) (hok : xk_ok (kw_h ad ca) ads) {fu : Nat} {x1 : Int32} {x2 : Int32} {x3 : Int32} {u u' : xk_St} {r : Unit} (h : fm_Arrays_fill_ABIIB__h78 fu x1 x2 x3 u = some (r, u')) :
    ∀ sz, xk_Met l ⟨"java/util/Arrays", "fill", "([BIIB)V"⟩ (Cond.code ⟨"java/util/Arrays", "fill", "([BIIB)V"⟩ prog_31_method_110_code 5 none :: xk_gd) rm_Arrays_fill_ABIIB__h78 (xk_Pc D kx_cl (kx_ty ca) (kw_h ad ca) ads xk_F sz [.ref (ad 78), .int x1, .int x2, .int x3] u) (xk_Qc D kx_cl (kw_h ad ca) ads (xo_v (.inl r)) u') (xk_A ads sz) := by
  unfold fm_Arrays_fill_ABIIB__h78 at h
  refine xk_con (by decide) htr hok (Nat.le_of_ble_eq_true rfl) (fun p e s m below meth c ls C hne hl hP => ?_)
  have hx := C.1.1
  have hb := C.1.2.1
  have hS : va_S (xk_A ads s.heap.size) s.heap s.heap [] := va_S.rf
  have hl : lv_has ls 5 [(0, .ref (ad 78)), (1, .int x1), (2, .int x2), (3, .int x3)] := hl
  refine lv_aload_n hx hb dd_Arrays_fill_ABIIB_0 rfl (lv_at hl 0 rfl) ?_
  refine va_alen (v := 65536) hx hb C.2.1 hP 78 0 rfl rfl rfl dd_Arrays_fill_ABIIB_1 ?_
  refine lv_iload_n hx hb dd_Arrays_fill_ABIIB_2 rfl (lv_at hl 1 rfl) ?_
  refine lv_iload_n hx hb dd_Arrays_fill_ABIIB_3 rfl (lv_at hl 2 rfl) ?_
  obtain ⟨rx, u1, hq, h⟩ := xp_seq h
  refine xk_goesV (xr_S (As := [.int (65536 : Int32), .int x1, .int x2]) (rest := []) C hP hS (ct_Arrays_rangeCheck__h htr hok hq) kq_Arrays_13 ⟨rfl, rfl, Nat.le_of_ble_eq_true rfl, Nat.le_of_ble_eq_true rfl⟩ ⟨Nat.le_of_ble_eq_true rfl, Nat.le_of_ble_eq_true rfl⟩ hl.1 rfl rfl (Nat.le_of_ble_eq_true rfl) dd_Arrays_fill_ABIIB_4) hS (fun H locs hP hS => ?_)
  clear hq
  refine lv_iload_n hx hb dd_Arrays_fill_ABIIB_7 rfl (lv_at hl 1 rfl) ?_
  refine lv_istore (lv' := [(4, .int x1), (0, .ref (ad 78)), (1, .int x1), (2, .int x2), (3, .int x3)]) hx hb dd_Arrays_fill_ABIIB_8 hl (by decide) rfl (fun ls hl => ?_)
  exact wj_Arrays_fill_ABIIB__h78_10 htr C hne h hP hS (lv_sub hl [1, 3, 4, 0] rfl)
abbrev rm_Memory_clear : Room := { frames := 8, cells := 1, slots := 6, locals := 146 }
noncomputable def fm_Memory_clear (fu : Nat) (u : xk_St) : Option (Unit × xk_St) :=
  (xs_seq (fm_Arrays_fill_ABIIB__h78 fu (0 : Int32) ((4096 : Int32) * (u.1 33)) (0 : Int32) u) fun _ u1 => xs_let (xs_I u1 33 (0 : Int32)) fun u2 => xs_let (xs_I u2 34 (0 : Int32)) fun u3 => some ((()), u3))
set_option maxHeartbeats 4000000 in
set_option maxRecDepth 100000 in
theorem ct_Memory_clear {l : Launch} {D : va_G} {ad : Nat → Nat} {ca : Nat → ClassId} {ads : List Nat} (htr : l.stackTraces = false) (hok : xk_ok (kw_h ad ca) ads) {fu : Nat} {u u' : xk_St} {r : Unit} (h : fm_Memory_clear fu u = some (r, u')) :
    ∀ sz, xk_Met l ⟨"ModuleHouse$Memory", "clear", "()V"⟩ (Cond.code ⟨"ModuleHouse$Memory", "clear", "()V"⟩ prog_6_method_4_code 1 none :: xk_gd) rm_Memory_clear (xk_Pc D kx_cl (kx_ty ca) (kw_h ad ca) ads xk_F sz [.ref (ad 77)] u) (xk_Qc D kx_cl (kw_h ad ca) ads (xo_v (.inl r)) u') (xk_A ads sz) := by
  unfold fm_Memory_clear at h
  refine xk_con (by decide) htr hok (Nat.le_of_ble_eq_true rfl) (fun p e s m below meth c ls C hne hl hP => ?_)
  have hx := C.1.1
  have hb := C.1.2.1
  have hS : va_S (xk_A ads s.heap.size) s.heap s.heap [] := va_S.rf
  have hl : lv_has ls 1 [(0, .ref (ad 77))] := hl
  refine lv_aload_n hx hb dd_Memory_clear_0 rfl (lv_at hl 0 rfl) ?_
  refine gf_h_Memory_77_bytes C hP dd_Memory_clear_1 ?_
  refine lv_iconst (v := 0) hx hb dd_Memory_clear_4 (by decide) ?_
  refine lv_sipush (v := 4096) hx hb dd_Memory_clear_5 (by decide) ?_
  refine lv_aload_n hx hb dd_Memory_clear_8 rfl (lv_at hl 0 rfl) ?_
  refine gf_h_Memory_77_pages C hP dd_Memory_clear_9 ?_
  refine lv_imul hx hb dd_Memory_clear_12 ?_
  refine lv_iconst (v := 0) hx hb dd_Memory_clear_13 (by decide) ?_
  obtain ⟨rx, u1, hq, h⟩ := xp_seq h
  refine xk_goesV (xr_S (As := [.ref (ad 78), .int (0 : Int32), .int ((4096 : Int32) * (u.1 33)), .int (0 : Int32)]) (rest := []) C hP hS (ct_Arrays_fill_ABIIB__h78 htr hok hq) kq_Memory_24 ⟨rfl, rfl, Nat.le_of_ble_eq_true rfl, Nat.le_of_ble_eq_true rfl⟩ ⟨Nat.le_of_ble_eq_true rfl, Nat.le_of_ble_eq_true rfl⟩ hl.1 rfl rfl (Nat.le_of_ble_eq_true rfl) dd_Memory_clear_14) hS (fun H locs hP hS => ?_)
  clear hq
  refine lv_aload_n hx hb dd_Memory_clear_17 rfl (lv_at hl 0 rfl) ?_
  refine lv_iconst (v := 0) hx hb dd_Memory_clear_18 (by decide) ?_
  refine pf_h_Memory_77_pages C hP hS dd_Memory_clear_19 (fun H locs hP hS => ?_)
  obtain ⟨u2, eu2, h⟩ := xp_let h
  rw [← eu2] at hP
  refine lv_aload_n hx hb dd_Memory_clear_22 rfl (lv_at hl 0 rfl) ?_
  refine lv_iconst (v := 0) hx hb dd_Memory_clear_23 (by decide) ?_
  refine pf_h_Memory_77_most C hP hS dd_Memory_clear_24 (fun H locs hP hS => ?_)
  obtain ⟨u3, eu3, h⟩ := xp_let h
  rw [← eu3] at hP
  obtain ⟨rfl, rfl⟩ := xp_r h
  exact xr_vret C hP hS dd_Memory_clear_27
abbrev rm_Machine_clear : Room := { frames := 9, cells := 1, slots := 6, locals := 166 }
noncomputable def fm_Machine_clear (fu : Nat) (u : xk_St) : Option (Unit × xk_St) :=
  (xs_let (xs_I u 28 (0 : Int32)) fun u1 => xs_let (xs_I u1 29 (0 : Int32)) fun u2 => xs_seq (fm_Heap_clear fu u2) fun _ u3 => xs_seq (fm_Memory_clear fu u3) fun _ u4 => some ((()), u4))
set_option maxHeartbeats 4000000 in
set_option maxRecDepth 100000 in
theorem ct_Machine_clear {l : Launch} {D : va_G} {ad : Nat → Nat} {ca : Nat → ClassId} {ads : List Nat} (htr : l.stackTraces = false) (hok : xk_ok (kw_h ad ca) ads) {fu : Nat} {u u' : xk_St} {r : Unit} (h : fm_Machine_clear fu u = some (r, u')) :
    ∀ sz, xk_Met l ⟨"ModuleHouse$Machine", "clear", "()V"⟩ (Cond.code ⟨"ModuleHouse$Machine", "clear", "()V"⟩ prog_5_method_2_code 1 none :: xk_gd) rm_Machine_clear (xk_Pc D kx_cl (kx_ty ca) (kw_h ad ca) ads xk_F sz [.ref (ad 60)] u) (xk_Qc D kx_cl (kw_h ad ca) ads (xo_v (.inl r)) u') (xk_A ads sz) := by
  unfold fm_Machine_clear at h
  refine xk_con (by decide) htr hok (Nat.le_of_ble_eq_true rfl) (fun p e s m below meth c ls C hne hl hP => ?_)
  have hx := C.1.1
  have hb := C.1.2.1
  have hS : va_S (xk_A ads s.heap.size) s.heap s.heap [] := va_S.rf
  have hl : lv_has ls 1 [(0, .ref (ad 60))] := hl
  refine lv_aload_n hx hb dd_Machine_clear_0 rfl (lv_at hl 0 rfl) ?_
  refine gf_h_Machine_60_values C hP dd_Machine_clear_1 ?_
  refine lv_iconst (v := 0) hx hb dd_Machine_clear_4 (by decide) ?_
  refine pf_h_Machine_61_top C hP hS dd_Machine_clear_5 (fun H locs hP hS => ?_)
  obtain ⟨u1, eu1, h⟩ := xp_let h
  rw [← eu1] at hP
  refine lv_aload_n hx hb dd_Machine_clear_8 rfl (lv_at hl 0 rfl) ?_
  refine gf_h_Machine_60_globals C hP dd_Machine_clear_9 ?_
  refine lv_iconst (v := 0) hx hb dd_Machine_clear_12 (by decide) ?_
  refine pf_h_Machine_64_top C hP hS dd_Machine_clear_13 (fun H locs hP hS => ?_)
  obtain ⟨u2, eu2, h⟩ := xp_let h
  rw [← eu2] at hP
  refine lv_aload_n hx hb dd_Machine_clear_16 rfl (lv_at hl 0 rfl) ?_
  refine gf_h_Machine_60_heap C hP dd_Machine_clear_17 ?_
  obtain ⟨rx, u3, hq, h⟩ := xp_seq h
  refine xk_goesV (xr_V (As := []) (rest := []) C hP hS (ct_Heap_clear htr hok hq) kq_Machine_70 67 3 rfl rfl ⟨rfl, rfl, Nat.le_of_ble_eq_true rfl, Nat.le_of_ble_eq_true rfl⟩ ⟨Nat.le_of_ble_eq_true rfl, Nat.le_of_ble_eq_true rfl⟩ hl.1 rfl rfl (Nat.le_of_ble_eq_true rfl) dd_Machine_clear_20) hS (fun H locs hP hS => ?_)
  clear hq
  refine lv_aload_n hx hb dd_Machine_clear_23 rfl (lv_at hl 0 rfl) ?_
  refine gf_h_Machine_60_memory C hP dd_Machine_clear_24 ?_
  obtain ⟨rx, u4, hq, h⟩ := xp_seq h
  refine xk_goesV (xr_V (As := []) (rest := []) C hP hS (ct_Memory_clear htr hok hq) kq_Machine_73 77 5 rfl rfl ⟨rfl, rfl, Nat.le_of_ble_eq_true rfl, Nat.le_of_ble_eq_true rfl⟩ ⟨Nat.le_of_ble_eq_true rfl, Nat.le_of_ble_eq_true rfl⟩ hl.1 rfl rfl (Nat.le_of_ble_eq_true rfl) dd_Machine_clear_27) hS (fun H locs hP hS => ?_)
  clear hq
  obtain ⟨rfl, rfl⟩ := xp_r h
  exact xr_vret C hP hS dd_Machine_clear_30
abbrev rm_Reader_readByte : Room := { frames := 6, cells := 1, slots := 6, locals := 100 }
noncomputable def fm_Reader_readByte (u : xk_St) : Option ((Int32 ⊕ Nat) × xk_St) :=
  if (u.1 17) < (u.1 18) then ((xs_let (xs_I u 17 ((u.1 17) + (1 : Int32))) fun u1 => if ((u1.1 17) - (1 : Int32)) < 0 ∨ 8192 ≤ ((u1.1 17) - (1 : Int32)).toNatClampNeg then none else some (.inl ((u1.2.2.1 1 ((u1.1 17) - (1 : Int32)).toNatClampNeg) &&& (255 : Int32)), u1))) else (some (.inr 0, u))
set_option maxHeartbeats 4000000 in
set_option maxRecDepth 100000 in
theorem ct_Reader_readByte {l : Launch} {D : va_G} {ad : Nat → Nat} {ca : Nat → ClassId} {ads : List Nat} (htr : l.stackTraces = false) (hok : xk_ok (kw_h ad ca) ads) {u u' : xk_St} {r : (Int32 ⊕ Nat)} (h : fm_Reader_readByte u = some (r, u')) :
    ∀ sz, xk_Met l ⟨"ModuleHouse$Reader", "readByte", "()I"⟩ (Cond.code ⟨"ModuleHouse$Reader", "readByte", "()I"⟩ prog_9_method_3_code 1 (some .int) :: xk_gd) rm_Reader_readByte (xk_Pc D kx_cl (kx_ty ca) (kw_h ad ca) ads xk_F sz [.ref (ad 54)] u) (xk_Qc D kx_cl (kw_h ad ca) ads (xo_i r) u') (xk_A ads sz) := by
  unfold fm_Reader_readByte at h
  refine xk_con (by decide) htr hok (Nat.le_of_ble_eq_true rfl) (fun p e s m below meth c ls C hne hl hP => ?_)
  have hx := C.1.1
  have hb := C.1.2.1
  have hS : va_S (xk_A ads s.heap.size) s.heap s.heap [] := va_S.rf
  have hl : lv_has ls 1 [(0, .ref (ad 54))] := hl
  refine lv_aload_n hx hb dd_Reader_readByte_0 rfl (lv_at hl 0 rfl) ?_
  refine gf_h_Reader_54_next C hP dd_Reader_readByte_1 ?_
  refine lv_aload_n hx hb dd_Reader_readByte_4 rfl (lv_at hl 0 rfl) ?_
  refine gf_h_Reader_54_end C hP dd_Reader_readByte_5 ?_
  refine lv_icmp_lt (tgt := 19) hx hb dd_Reader_readByte_8 (by decide) (fun hc => ?_) (fun hc => ?_)
  · have h := xp_t hc h
    refine lv_aload_n hx hb dd_Reader_readByte_19 rfl (lv_at hl 0 rfl) ?_
    refine lv_dup hx hb dd_Reader_readByte_20 rfl ?_
    refine gf_h_Reader_54_next C hP dd_Reader_readByte_21 ?_
    refine lv_iconst (v := 1) hx hb dd_Reader_readByte_24 (by decide) ?_
    refine lv_iadd hx hb dd_Reader_readByte_25 ?_
    refine pf_h_Reader_54_next C hP hS dd_Reader_readByte_26 (fun H locs hP hS => ?_)
    obtain ⟨u1, eu1, h⟩ := xp_let h
    rw [← eu1] at hP
    refine lv_aload_n hx hb dd_Reader_readByte_29 rfl (lv_at hl 0 rfl) ?_
    refine gf_h_Reader_54_bytes C hP dd_Reader_readByte_30 ?_
    refine lv_aload_n hx hb dd_Reader_readByte_33 rfl (lv_at hl 0 rfl) ?_
    refine gf_h_Reader_54_next C hP dd_Reader_readByte_34 ?_
    refine lv_iconst (v := 1) hx hb dd_Reader_readByte_37 (by decide) ?_
    refine lv_isub hx hb dd_Reader_readByte_38 ?_
    obtain ⟨hi, h⟩ := xp_g h
    refine al_h_5 C hP hi dd_Reader_readByte_39 ?_
    refine lv_sipush (v := 255) hx hb dd_Reader_readByte_40 (by decide) ?_
    refine lv_iand hx hb dd_Reader_readByte_43 ?_
    obtain ⟨rfl, rfl⟩ := xp_r h
    exact xr_iret C hP hS dd_Reader_readByte_44
  · have h := xp_f hc h
    obtain ⟨rfl, rfl⟩ := xp_r h
    exact xr_throw C hP hS hne kz_Reader_0 hl.1 ⟨Nat.le_of_ble_eq_true rfl, Nat.le_of_ble_eq_true rfl, Nat.le_of_ble_eq_true rfl, Nat.le_of_ble_eq_true rfl⟩ dd_Reader_readByte_11 dd_Reader_readByte_14 dd_Reader_readByte_15 dd_Reader_readByte_18
abbrev rm_Reader_readUnsigned : Room := { frames := 6, cells := 1, slots := 6, locals := 100 }
noncomputable def jb_Reader_readUnsigned_75 (fu : Nat) (k4 : Int64 → Int32 → xk_St → Option ((Int64 ⊕ Nat) × xk_St)) (b1 : Int64) (b3 : Int32) (b4 : Int32) (u : xk_St) : Option ((Int64 ⊕ Nat) × xk_St) :=
  if (128 : Int32) ≤ b4 then ((xs_let (b3 + (7 : Int32)) fun a4 => k4 b1 a4 u)) else (some (.inr 0, u))
noncomputable def jb_Reader_readUnsigned_4 (fu : Nat) : Nat → Int64 → Int32 → xk_St → Option ((Int64 ⊕ Nat) × xk_St)
  | 0 => fun _ _ _ => none
  | n + 1 => fun b1 b3 u =>
    xs_let (jb_Reader_readUnsigned_4 fu  n) fun k4 =>
    if (35 : Int32) ≤ b3 then (some (.inr 0, u)) else (if (u.1 18) ≤ (u.1 17) then (some (.inr 0, u)) else ((if (u.1 17) < 0 ∨ 8192 ≤ (u.1 17).toNatClampNeg then none else xs_let ((u.2.2.1 1 (u.1 17).toNatClampNeg) &&& (255 : Int32)) fun a1 => xs_let (xs_I u 17 ((u.1 17) + (1 : Int32))) fun u2 => xs_let (b1 ||| (((a1 &&& (127 : Int32)).toInt64) <<< (b3.toInt64 &&& 63))) fun a3 => if (128 : Int32) ≤ a1 then (jb_Reader_readUnsigned_75 fu k4 a3 b3 a1 u2) else (if (4294967295 : Int64) < a3 then (jb_Reader_readUnsigned_75 fu k4 a3 b3 a1 u2) else (some (.inl a3, u2))))))
noncomputable def fm_Reader_readUnsigned (fu : Nat) (u : xk_St) : Option ((Int64 ⊕ Nat) × xk_St) :=
  jb_Reader_readUnsigned_4 fu fu (0 : Int64) (0 : Int32) u
set_option maxHeartbeats 4000000 in
set_option maxRecDepth 100000 in
theorem wj_Reader_readUnsigned_75 {p : Program} {l : Launch} {e : Env} {s : State} {m : MethodId} {args : Array Value} {below : List Frame} {meth : Method} {c : Code} {D : va_G} {ad : Nat → Nat} {ca : Nat → ClassId} {ads : List Nat} {fu : Nat} (htr : l.stackTraces = false) (C : xk_C D kx_cl (kx_ty ca) (kw_h ad ca) ads "ModuleHouse$Reader" prog_9_method_5_code 5 (some .long) p e s m args meth c) (hne : c.exceptionTable.isEmpty = true) {u' : xk_St} {r : (Int64 ⊕ Nat)} {k4 : Int64 → Int32 → xk_St → Option ((Int64 ⊕ Nat) × xk_St)} (hk4 : ∀ (c0 : Int64) (c1 : Int32) (u : xk_St) (H : Heap) (locs : List Loc) (ls : Array Slot), k4 c0 c1 u = some (r, u') → va_P D kx_cl (kw_h ad ca u) H → va_S (xk_A ads s.heap.size) s.heap H locs → lv_has ls 5 [(0, .ref (ad 54)), (1, .long c0), (3, .int c1)] → W p l e rm_Reader_readUnsigned s m args below meth c H locs 0 0 (xk_MQ below (xk_Qc D kx_cl (kw_h ad ca) ads (xo_l r) u') args s (xk_A ads s.heap.size)) (F0 m 4 ls [])) {b1 : Int64} {b3 : Int32} {b4 : Int32} {u : xk_St} {H : Heap} {locs : List Loc} {ls : Array Slot} (h : jb_Reader_readUnsigned_75 fu k4 b1 b3 b4 u = some (r, u')) (hP : va_P D kx_cl (kw_h ad ca u) H) (hS : va_S (xk_A ads s.heap.size) s.heap H locs) (hl : lv_has ls 5 [(0, .ref (ad 54)), (1, .long b1), (3, .int b3), (4, .int b4)]) : W p l e rm_Reader_readUnsigned s m args below meth c H locs 0 0 (xk_MQ below (xk_Qc D kx_cl (kw_h ad ca) ads (xo_l r) u') args s (xk_A ads s.heap.size)) (F0 m 75 ls []) := by
  have hx := C.1.1
  have hb := C.1.2.1
  have hok := C.2.2.1
  unfold jb_Reader_readUnsigned_75 at h
  refine lv_iload hx hb dd_Reader_readUnsigned_75 (lv_at hl 3 rfl) ?_
  refine lv_sipush (v := 128) hx hb dd_Reader_readUnsigned_77 (by decide) ?_
  refine lv_icmp_ge (tgt := 86) hx hb dd_Reader_readUnsigned_80 (by decide) (fun hc => ?_) (fun hc => ?_)
  · have h := xp_t hc h
    obtain ⟨a4, ea4, h⟩ := xp_let h
    refine lv_iinc (v := a4) (lv' := [(3, .int a4), (0, .ref (ad 54)), (1, .long b1), (4, .int b4)]) hx hb dd_Reader_readUnsigned_86 hl (k := 2) rfl (by rw [ea4]; first | rfl | decide) (by decide) rfl (fun ls hl => ?_)
    refine lv_goto (tgt := 4) hx hb dd_Reader_readUnsigned_89 (by decide) ?_
    exact hk4 b1 a4 u _ _ _ h hP hS (lv_sub hl [1, 2, 0] rfl)
  · have h := xp_f hc h
    refine lv_goto (tgt := 92) hx hb dd_Reader_readUnsigned_83 (by decide) ?_
    obtain ⟨rfl, rfl⟩ := xp_r h
    exact xr_throw C hP hS hne kz_Reader_0 hl.1 ⟨Nat.le_of_ble_eq_true rfl, Nat.le_of_ble_eq_true rfl, Nat.le_of_ble_eq_true rfl, Nat.le_of_ble_eq_true rfl⟩ dd_Reader_readUnsigned_92 dd_Reader_readUnsigned_95 dd_Reader_readUnsigned_96 dd_Reader_readUnsigned_99
set_option maxHeartbeats 4000000 in
set_option maxRecDepth 100000 in
theorem wj_Reader_readUnsigned_4 {p : Program} {l : Launch} {e : Env} {s : State} {m : MethodId} {args : Array Value} {below : List Frame} {meth : Method} {c : Code} {D : va_G} {ad : Nat → Nat} {ca : Nat → ClassId} {ads : List Nat} {fu : Nat} (htr : l.stackTraces = false) (C : xk_C D kx_cl (kx_ty ca) (kw_h ad ca) ads "ModuleHouse$Reader" prog_9_method_5_code 5 (some .long) p e s m args meth c) (hne : c.exceptionTable.isEmpty = true) {u' : xk_St} {r : (Int64 ⊕ Nat)} : ∀ {n : Nat} {b1 : Int64} {b3 : Int32} {u : xk_St} {H : Heap} {locs : List Loc} {ls : Array Slot} (h : jb_Reader_readUnsigned_4 fu  n b1 b3 u = some (r, u')) (hP : va_P D kx_cl (kw_h ad ca u) H) (hS : va_S (xk_A ads s.heap.size) s.heap H locs) (hl : lv_has ls 5 [(0, .ref (ad 54)), (1, .long b1), (3, .int b3)]), W p l e rm_Reader_readUnsigned s m args below meth c H locs 0 0 (xk_MQ below (xk_Qc D kx_cl (kw_h ad ca) ads (xo_l r) u') args s (xk_A ads s.heap.size)) (F0 m 4 ls []) := by
  intro n
  have hx := C.1.1
  have hb := C.1.2.1
  have hok := C.2.2.1
  induction n with
  | zero =>
    intro _ _ u H locs ls h
    have h : none = some (r, u') := h
    cases h
  | succ n ih =>
    intro b1 b3 u H locs ls h hP hS hl
    unfold jb_Reader_readUnsigned_4 at h
    obtain ⟨k4, ek4, h⟩ := xp_let h
    have hk4 : ∀ (c0 : Int64) (c1 : Int32) (u : xk_St) (H : Heap) (locs : List Loc) (ls : Array Slot), k4 c0 c1 u = some (r, u') → va_P D kx_cl (kw_h ad ca u) H → va_S (xk_A ads s.heap.size) s.heap H locs → lv_has ls 5 [(0, .ref (ad 54)), (1, .long c0), (3, .int c1)] → W p l e rm_Reader_readUnsigned s m args below meth c H locs 0 0 (xk_MQ below (xk_Qc D kx_cl (kw_h ad ca) ads (xo_l r) u') args s (xk_A ads s.heap.size)) (F0 m 4 ls []) := by
      intro c0 c1 u H locs ls h hP hS hl
      subst ek4
      exact ih h hP hS hl
    clear ih ek4
    refine lv_iload_n hx hb dd_Reader_readUnsigned_4 rfl (lv_at hl 2 rfl) ?_
    refine lv_bipush (v := 35) hx hb dd_Reader_readUnsigned_5 (by decide) ?_
    refine lv_icmp_ge (tgt := 92) hx hb dd_Reader_readUnsigned_7 (by decide) (fun hc => ?_) (fun hc => ?_)
    · have h := xp_t hc h
      obtain ⟨rfl, rfl⟩ := xp_r h
      exact xr_throw C hP hS hne kz_Reader_0 hl.1 ⟨Nat.le_of_ble_eq_true rfl, Nat.le_of_ble_eq_true rfl, Nat.le_of_ble_eq_true rfl, Nat.le_of_ble_eq_true rfl⟩ dd_Reader_readUnsigned_92 dd_Reader_readUnsigned_95 dd_Reader_readUnsigned_96 dd_Reader_readUnsigned_99
    · have h := xp_f hc h
      refine lv_aload_n hx hb dd_Reader_readUnsigned_10 rfl (lv_at hl 0 rfl) ?_
      refine gf_h_Reader_54_next C hP dd_Reader_readUnsigned_11 ?_
      refine lv_aload_n hx hb dd_Reader_readUnsigned_14 rfl (lv_at hl 0 rfl) ?_
      refine gf_h_Reader_54_end C hP dd_Reader_readUnsigned_15 ?_
      refine lv_icmp_ge (tgt := 92) hx hb dd_Reader_readUnsigned_18 (by decide) (fun hc => ?_) (fun hc => ?_)
      · have h := xp_t hc h
        obtain ⟨rfl, rfl⟩ := xp_r h
        exact xr_throw C hP hS hne kz_Reader_0 hl.1 ⟨Nat.le_of_ble_eq_true rfl, Nat.le_of_ble_eq_true rfl, Nat.le_of_ble_eq_true rfl, Nat.le_of_ble_eq_true rfl⟩ dd_Reader_readUnsigned_92 dd_Reader_readUnsigned_95 dd_Reader_readUnsigned_96 dd_Reader_readUnsigned_99
      · have h := xp_f hc h
        refine lv_aload_n hx hb dd_Reader_readUnsigned_21 rfl (lv_at hl 0 rfl) ?_
        refine gf_h_Reader_54_bytes C hP dd_Reader_readUnsigned_22 ?_
        refine lv_aload_n hx hb dd_Reader_readUnsigned_25 rfl (lv_at hl 0 rfl) ?_
        refine gf_h_Reader_54_next C hP dd_Reader_readUnsigned_26 ?_
        obtain ⟨hi, h⟩ := xp_g h
        refine al_h_5 C hP hi dd_Reader_readUnsigned_29 ?_
        refine lv_sipush (v := 255) hx hb dd_Reader_readUnsigned_30 (by decide) ?_
        refine lv_iand hx hb dd_Reader_readUnsigned_33 ?_
        obtain ⟨a1, ea1, h⟩ := xp_let h
        refine xr_nami ea1 ?_
        refine lv_istore (lv' := [(4, .int a1), (0, .ref (ad 54)), (1, .long b1), (3, .int b3)]) hx hb dd_Reader_readUnsigned_34 hl (by decide) rfl (fun ls hl => ?_)
        refine lv_aload_n hx hb dd_Reader_readUnsigned_36 rfl (lv_at hl 1 rfl) ?_
        refine lv_dup hx hb dd_Reader_readUnsigned_37 rfl ?_
        refine gf_h_Reader_54_next C hP dd_Reader_readUnsigned_38 ?_
        refine lv_iconst (v := 1) hx hb dd_Reader_readUnsigned_41 (by decide) ?_
        refine lv_iadd hx hb dd_Reader_readUnsigned_42 ?_
        refine pf_h_Reader_54_next C hP hS dd_Reader_readUnsigned_43 (fun H locs hP hS => ?_)
        obtain ⟨u2, eu2, h⟩ := xp_let h
        rw [← eu2] at hP
        refine lv_lload_n hx hb dd_Reader_readUnsigned_46 rfl (lv_at hl 2 rfl) ?_
        refine lv_iload hx hb dd_Reader_readUnsigned_47 (lv_at hl 0 rfl) ?_
        refine lv_bipush (v := 127) hx hb dd_Reader_readUnsigned_49 (by decide) ?_
        refine lv_iand hx hb dd_Reader_readUnsigned_51 ?_
        refine lv_i2l hx hb dd_Reader_readUnsigned_52 rfl ?_
        refine lv_iload_n hx hb dd_Reader_readUnsigned_53 rfl (lv_at hl 3 rfl) ?_
        refine lv_lshl hx hb dd_Reader_readUnsigned_54 rfl ?_
        refine lv_lor hx hb dd_Reader_readUnsigned_55 ?_
        obtain ⟨a3, ea3, h⟩ := xp_let h
        refine xr_naml ea3 ?_
        refine lv_lstore_n (lv' := [(1, .long a3), (4, .int a1), (0, .ref (ad 54)), (3, .int b3)]) hx hb dd_Reader_readUnsigned_56 rfl hl (by decide) rfl (fun ls hl => ?_)
        refine lv_iload hx hb dd_Reader_readUnsigned_57 (lv_at hl 1 rfl) ?_
        refine lv_sipush (v := 128) hx hb dd_Reader_readUnsigned_59 (by decide) ?_
        refine lv_icmp_ge (tgt := 75) hx hb dd_Reader_readUnsigned_62 (by decide) (fun hc => ?_) (fun hc => ?_)
        · have h := xp_t hc h
          exact wj_Reader_readUnsigned_75 htr C hne hk4 h hP hS (lv_sub hl [2, 0, 3, 1] rfl)
        · have h := xp_f hc h
          refine lv_lload_n hx hb dd_Reader_readUnsigned_65 rfl (lv_at hl 0 rfl) ?_
          refine lv_ldc2 (v := 4294967295) hx hb C.1.2.2.2.1 (C.1.2.2.2.2 _ (xk_c4 (w := Jvm.Cond.constantLong "ModuleHouse$Reader" 99 4294967295) 146 rfl rfl)) dd_Reader_readUnsigned_66 ?_
          refine xr_lc_gt (tgt := 75) hx hb dd_Reader_readUnsigned_69 dd_Reader_readUnsigned_70 (by decide) (fun hc => ?_) (fun hc => ?_)
          · have h := xp_t hc h
            exact wj_Reader_readUnsigned_75 htr C hne hk4 h hP hS (lv_sub hl [2, 0, 3, 1] rfl)
          · have h := xp_f hc h
            refine lv_lload_n hx hb dd_Reader_readUnsigned_73 rfl (lv_at hl 0 rfl) ?_
            obtain ⟨rfl, rfl⟩ := xp_r h
            exact xr_lret C hP hS dd_Reader_readUnsigned_74
set_option maxHeartbeats 4000000 in
set_option maxRecDepth 100000 in
theorem ct_Reader_readUnsigned {l : Launch} {D : va_G} {ad : Nat → Nat} {ca : Nat → ClassId} {ads : List Nat} (htr : l.stackTraces = false) (hok : xk_ok (kw_h ad ca) ads) {fu : Nat} {u u' : xk_St} {r : (Int64 ⊕ Nat)} (h : fm_Reader_readUnsigned fu u = some (r, u')) :
    ∀ sz, xk_Met l ⟨"ModuleHouse$Reader", "readUnsigned", "()J"⟩ (Cond.code ⟨"ModuleHouse$Reader", "readUnsigned", "()J"⟩ prog_9_method_5_code 5 (some .long) :: xk_gd) rm_Reader_readUnsigned (xk_Pc D kx_cl (kx_ty ca) (kw_h ad ca) ads xk_F sz [.ref (ad 54)] u) (xk_Qc D kx_cl (kw_h ad ca) ads (xo_l r) u') (xk_A ads sz) := by
  unfold fm_Reader_readUnsigned at h
  refine xk_con (by decide) htr hok (Nat.le_of_ble_eq_true rfl) (fun p e s m below meth c ls C hne hl hP => ?_)
  have hx := C.1.1
  have hb := C.1.2.1
  have hS : va_S (xk_A ads s.heap.size) s.heap s.heap [] := va_S.rf
  have hl : lv_has ls 5 [(0, .ref (ad 54))] := hl
  refine lv_lconst (v := 0) hx hb dd_Reader_readUnsigned_0 (by decide) ?_
  refine lv_lstore_n (lv' := [(1, .long (0 : Int64)), (0, .ref (ad 54))]) hx hb dd_Reader_readUnsigned_1 rfl hl (by decide) rfl (fun ls hl => ?_)
  refine lv_iconst (v := 0) hx hb dd_Reader_readUnsigned_2 (by decide) ?_
  refine lv_istore_n (lv' := [(3, .int (0 : Int32)), (1, .long (0 : Int64)), (0, .ref (ad 54))]) hx hb dd_Reader_readUnsigned_3 rfl hl (by decide) rfl (fun ls hl => ?_)
  exact wj_Reader_readUnsigned_4 htr C hne h hP hS (lv_sub hl [2, 1, 0] rfl)
abbrev rm_Reader_readSize : Room := { frames := 7, cells := 1, slots := 6, locals := 124 }
noncomputable def fm_Reader_readSize (fu : Nat) (x0 : Int32) (u : xk_St) : Option ((Int32 ⊕ Nat) × xk_St) :=
  (xs_try (fm_Reader_readUnsigned fu u) fun a1 u2 => if a1 ≤ ((x0 - (u2.1 17)).toInt64) then (some (.inl (a1.toInt32), u2)) else (some (.inr 0, u2)))
set_option maxHeartbeats 4000000 in
set_option maxRecDepth 100000 in
theorem ct_Reader_readSize {l : Launch} {D : va_G} {ad : Nat → Nat} {ca : Nat → ClassId} {ads : List Nat} (htr : l.stackTraces = false) (hok : xk_ok (kw_h ad ca) ads) {fu : Nat} {x0 : Int32} {u u' : xk_St} {r : (Int32 ⊕ Nat)} (h : fm_Reader_readSize fu x0 u = some (r, u')) :
    ∀ sz, xk_Met l ⟨"ModuleHouse$Reader", "readSize", "(I)I"⟩ (Cond.code ⟨"ModuleHouse$Reader", "readSize", "(I)I"⟩ prog_9_method_8_code 4 (some .int) :: xk_gd) rm_Reader_readSize (xk_Pc D kx_cl (kx_ty ca) (kw_h ad ca) ads xk_F sz [.ref (ad 54), .int x0] u) (xk_Qc D kx_cl (kw_h ad ca) ads (xo_i r) u') (xk_A ads sz) := by
  unfold fm_Reader_readSize at h
  refine xk_con (by decide) htr hok (Nat.le_of_ble_eq_true rfl) (fun p e s m below meth c ls C hne hl hP => ?_)
  have hx := C.1.1
  have hb := C.1.2.1
  have hS : va_S (xk_A ads s.heap.size) s.heap s.heap [] := va_S.rf
  have hl : lv_has ls 4 [(0, .ref (ad 54)), (1, .int x0)] := hl
  refine lv_aload_n hx hb dd_Reader_readSize_0 rfl (lv_at hl 0 rfl) ?_
  rcases xp_try h with ⟨a1, u2, hq, h⟩ | ⟨kx, ux, hq, h⟩
  rotate_left
  · obtain ⟨rfl, rfl⟩ := xp_q h
    exact xk_up (xr_V (As := []) (rest := []) C hP hS (ct_Reader_readUnsigned htr hok hq) kq_Reader_103 54 7 rfl rfl ⟨rfl, rfl, Nat.le_of_ble_eq_true rfl, Nat.le_of_ble_eq_true rfl⟩ ⟨Nat.le_of_ble_eq_true rfl, Nat.le_of_ble_eq_true rfl⟩ hl.1 rfl rfl (Nat.le_of_ble_eq_true rfl) dd_Reader_readSize_1) hS hne C.2.2.2.2.2.2.1
  refine xk_goesL (xr_V (As := []) (rest := []) C hP hS (ct_Reader_readUnsigned htr hok hq) kq_Reader_103 54 7 rfl rfl ⟨rfl, rfl, Nat.le_of_ble_eq_true rfl, Nat.le_of_ble_eq_true rfl⟩ ⟨Nat.le_of_ble_eq_true rfl, Nat.le_of_ble_eq_true rfl⟩ hl.1 rfl rfl (Nat.le_of_ble_eq_true rfl) dd_Reader_readSize_1) hS (fun H locs hP hS => ?_)
  clear hq
  refine lv_lstore_n (lv' := [(2, .long a1), (0, .ref (ad 54)), (1, .int x0)]) hx hb dd_Reader_readSize_4 rfl hl (by decide) rfl (fun ls hl => ?_)
  refine lv_lload_n hx hb dd_Reader_readSize_5 rfl (lv_at hl 0 rfl) ?_
  refine lv_iload_n hx hb dd_Reader_readSize_6 rfl (lv_at hl 2 rfl) ?_
  refine lv_aload_n hx hb dd_Reader_readSize_7 rfl (lv_at hl 1 rfl) ?_
  refine gf_h_Reader_54_next C hP dd_Reader_readSize_8 ?_
  refine lv_isub hx hb dd_Reader_readSize_11 ?_
  refine lv_i2l hx hb dd_Reader_readSize_12 rfl ?_
  refine xr_lc_le (tgt := 25) hx hb dd_Reader_readSize_13 dd_Reader_readSize_14 (by decide) (fun hc => ?_) (fun hc => ?_)
  · have h := xp_t hc h
    refine lv_lload_n hx hb dd_Reader_readSize_25 rfl (lv_at hl 0 rfl) ?_
    refine lv_l2i hx hb dd_Reader_readSize_26 rfl ?_
    obtain ⟨rfl, rfl⟩ := xp_r h
    exact xr_iret C hP hS dd_Reader_readSize_27
  · have h := xp_f hc h
    obtain ⟨rfl, rfl⟩ := xp_r h
    exact xr_throw C hP hS hne kz_Reader_0 hl.1 ⟨Nat.le_of_ble_eq_true rfl, Nat.le_of_ble_eq_true rfl, Nat.le_of_ble_eq_true rfl, Nat.le_of_ble_eq_true rfl⟩ dd_Reader_readSize_17 dd_Reader_readSize_20 dd_Reader_readSize_21 dd_Reader_readSize_24
abbrev rm_Reader_readNumber : Room := { frames := 7, cells := 1, slots := 6, locals := 124 }
noncomputable def fm_Reader_readNumber (fu : Nat) (u : xk_St) : Option ((Int32 ⊕ Nat) × xk_St) :=
  (xs_try (fm_Reader_readUnsigned fu u) fun a1 u2 => some (.inl ((if (2147483647 : Int64) < a1 then (2147483647 : Int64) else a1).toInt32), u2))
set_option maxHeartbeats 4000000 in
set_option maxRecDepth 100000 in
theorem ct_Reader_readNumber {l : Launch} {D : va_G} {ad : Nat → Nat} {ca : Nat → ClassId} {ads : List Nat} (htr : l.stackTraces = false) (hok : xk_ok (kw_h ad ca) ads) {fu : Nat} {u u' : xk_St} {r : (Int32 ⊕ Nat)} (h : fm_Reader_readNumber fu u = some (r, u')) :
    ∀ sz, xk_Met l ⟨"ModuleHouse$Reader", "readNumber", "()I"⟩ (Cond.code ⟨"ModuleHouse$Reader", "readNumber", "()I"⟩ prog_9_method_7_code 1 (some .int) :: xk_gd) rm_Reader_readNumber (xk_Pc D kx_cl (kx_ty ca) (kw_h ad ca) ads xk_F sz [.ref (ad 54)] u) (xk_Qc D kx_cl (kw_h ad ca) ads (xo_i r) u') (xk_A ads sz) := by
  unfold fm_Reader_readNumber at h
  refine xk_con (by decide) htr hok (Nat.le_of_ble_eq_true rfl) (fun p e s m below meth c ls C hne hl hP => ?_)
  have hx := C.1.1
  have hb := C.1.2.1
  have hS : va_S (xk_A ads s.heap.size) s.heap s.heap [] := va_S.rf
  have hl : lv_has ls 1 [(0, .ref (ad 54))] := hl
  refine lv_aload_n hx hb dd_Reader_readNumber_0 rfl (lv_at hl 0 rfl) ?_
  rcases xp_try h with ⟨a1, u2, hq, h⟩ | ⟨kx, ux, hq, h⟩
  rotate_left
  · obtain ⟨rfl, rfl⟩ := xp_q h
    exact xk_up (xr_V (As := []) (rest := []) C hP hS (ct_Reader_readUnsigned htr hok hq) kq_Reader_103 54 7 rfl rfl ⟨rfl, rfl, Nat.le_of_ble_eq_true rfl, Nat.le_of_ble_eq_true rfl⟩ ⟨Nat.le_of_ble_eq_true rfl, Nat.le_of_ble_eq_true rfl⟩ hl.1 rfl rfl (Nat.le_of_ble_eq_true rfl) dd_Reader_readNumber_1) hS hne C.2.2.2.2.2.2.1
  refine xk_goesL (xr_V (As := []) (rest := []) C hP hS (ct_Reader_readUnsigned htr hok hq) kq_Reader_103 54 7 rfl rfl ⟨rfl, rfl, Nat.le_of_ble_eq_true rfl, Nat.le_of_ble_eq_true rfl⟩ ⟨Nat.le_of_ble_eq_true rfl, Nat.le_of_ble_eq_true rfl⟩ hl.1 rfl rfl (Nat.le_of_ble_eq_true rfl) dd_Reader_readNumber_1) hS (fun H locs hP hS => ?_)
  clear hq
  refine lv_ldc2 (v := 2147483647) hx hb C.1.2.2.2.1 (C.1.2.2.2.2 _ (xk_c4 (w := Jvm.Cond.constantLong "ModuleHouse$Reader" 109 2147483647) 155 rfl rfl)) dd_Reader_readNumber_4 ?_
  refine va_mmin_long hx hb (C.1.2.2.1.trans hl.1.symm) C.1.2.2.2.1 (C.1.2.2.2.2 _ (xk_c4 (w := Cond.methodLink "ModuleHouse$Reader" 111 Lib.MathLoose.min_long.x) 156 rfl rfl)) (C.1.2.2.2.2 _ (xk_c4 (w := Cond.static Lib.MathLoose.min_long.x) 157 rfl rfl)) (C.1.2.2.2.2 _ (xk_c1 (w := Cond.initialized "java/lang/Math") 24 rfl rfl)) (C.1.2.2.2.2 _ (xk_c4 (w := Cond.code Lib.MathLoose.min_long.x Lib.MathLoose.min_long.code 4 (some .long)) 158 rfl rfl)) (Nat.le_of_ble_eq_true rfl) (Nat.le_of_ble_eq_true rfl) (Nat.zero_le _) (Nat.zero_le _) dd_Reader_readNumber_7 ?_
  refine lv_l2i hx hb dd_Reader_readNumber_10 rfl ?_
  obtain ⟨rfl, rfl⟩ := xp_r h
  exact xr_iret C hP hS dd_Reader_readNumber_11
abbrev rm_Reader_peekByte : Room := { frames := 6, cells := 1, slots := 6, locals := 100 }
noncomputable def fm_Reader_peekByte (u : xk_St) : Option ((Int32 ⊕ Nat) × xk_St) :=
  if (u.1 17) < (u.1 18) then ((if (u.1 17) < 0 ∨ 8192 ≤ (u.1 17).toNatClampNeg then none else some (.inl ((u.2.2.1 1 (u.1 17).toNatClampNeg) &&& (255 : Int32)), u))) else (some (.inr 0, u))
set_option maxHeartbeats 4000000 in
set_option maxRecDepth 100000 in
theorem ct_Reader_peekByte {l : Launch} {D : va_G} {ad : Nat → Nat} {ca : Nat → ClassId} {ads : List Nat} (htr : l.stackTraces = false) (hok : xk_ok (kw_h ad ca) ads) {u u' : xk_St} {r : (Int32 ⊕ Nat)} (h : fm_Reader_peekByte u = some (r, u')) :
    ∀ sz, xk_Met l ⟨"ModuleHouse$Reader", "peekByte", "()I"⟩ (Cond.code ⟨"ModuleHouse$Reader", "peekByte", "()I"⟩ prog_9_method_4_code 1 (some .int) :: xk_gd) rm_Reader_peekByte (xk_Pc D kx_cl (kx_ty ca) (kw_h ad ca) ads xk_F sz [.ref (ad 54)] u) (xk_Qc D kx_cl (kw_h ad ca) ads (xo_i r) u') (xk_A ads sz) := by
  unfold fm_Reader_peekByte at h
  refine xk_con (by decide) htr hok (Nat.le_of_ble_eq_true rfl) (fun p e s m below meth c ls C hne hl hP => ?_)
  have hx := C.1.1
  have hb := C.1.2.1
  have hS : va_S (xk_A ads s.heap.size) s.heap s.heap [] := va_S.rf
  have hl : lv_has ls 1 [(0, .ref (ad 54))] := hl
  refine lv_aload_n hx hb dd_Reader_peekByte_0 rfl (lv_at hl 0 rfl) ?_
  refine gf_h_Reader_54_next C hP dd_Reader_peekByte_1 ?_
  refine lv_aload_n hx hb dd_Reader_peekByte_4 rfl (lv_at hl 0 rfl) ?_
  refine gf_h_Reader_54_end C hP dd_Reader_peekByte_5 ?_
  refine lv_icmp_lt (tgt := 19) hx hb dd_Reader_peekByte_8 (by decide) (fun hc => ?_) (fun hc => ?_)
  · have h := xp_t hc h
    refine lv_aload_n hx hb dd_Reader_peekByte_19 rfl (lv_at hl 0 rfl) ?_
    refine gf_h_Reader_54_bytes C hP dd_Reader_peekByte_20 ?_
    refine lv_aload_n hx hb dd_Reader_peekByte_23 rfl (lv_at hl 0 rfl) ?_
    refine gf_h_Reader_54_next C hP dd_Reader_peekByte_24 ?_
    obtain ⟨hi, h⟩ := xp_g h
    refine al_h_5 C hP hi dd_Reader_peekByte_27 ?_
    refine lv_sipush (v := 255) hx hb dd_Reader_peekByte_28 (by decide) ?_
    refine lv_iand hx hb dd_Reader_peekByte_31 ?_
    obtain ⟨rfl, rfl⟩ := xp_r h
    exact xr_iret C hP hS dd_Reader_peekByte_32
  · have h := xp_f hc h
    obtain ⟨rfl, rfl⟩ := xp_r h
    exact xr_throw C hP hS hne kz_Reader_0 hl.1 ⟨Nat.le_of_ble_eq_true rfl, Nat.le_of_ble_eq_true rfl, Nat.le_of_ble_eq_true rfl, Nat.le_of_ble_eq_true rfl⟩ dd_Reader_peekByte_11 dd_Reader_peekByte_14 dd_Reader_peekByte_15 dd_Reader_peekByte_18
abbrev rm_Types_setMember : Room := { frames := 1, cells := 1, slots := 6, locals := 60 }
noncomputable def fm_Types_setMember (x0 : Int32) (x1 : Int32) (x2 : Int32) (u : xk_St) : Option (Unit × xk_St) :=
  (if (((34 : Int32) * x0) + (if (16 : Int32) < x1 then (16 : Int32) else x1)) < 0 ∨ 2210 ≤ (((34 : Int32) * x0) + (if (16 : Int32) < x1 then (16 : Int32) else x1)).toNatClampNeg then none else xs_let (xs_A u 6 (((34 : Int32) * x0) + (if (16 : Int32) < x1 then (16 : Int32) else x1)).toNatClampNeg x2) fun u1 => some ((()), u1))
set_option maxHeartbeats 4000000 in
set_option maxRecDepth 100000 in
theorem ct_Types_setMember {l : Launch} {D : va_G} {ad : Nat → Nat} {ca : Nat → ClassId} {ads : List Nat} (htr : l.stackTraces = false) (hok : xk_ok (kw_h ad ca) ads) {x0 : Int32} {x1 : Int32} {x2 : Int32} {u u' : xk_St} {r : Unit} (h : fm_Types_setMember x0 x1 x2 u = some (r, u')) :
    ∀ sz, xk_Met l ⟨"ModuleHouse$Types", "setMember", "(III)V"⟩ (Cond.code ⟨"ModuleHouse$Types", "setMember", "(III)V"⟩ prog_11_method_13_code 4 none :: xk_gd) rm_Types_setMember (xk_Pc D kx_cl (kx_ty ca) (kw_h ad ca) ads xk_F sz [.ref (ad 6), .int x0, .int x1, .int x2] u) (xk_Qc D kx_cl (kw_h ad ca) ads (xo_v (.inl r)) u') (xk_A ads sz) := by
  unfold fm_Types_setMember at h
  refine xk_con (by decide) htr hok (Nat.le_of_ble_eq_true rfl) (fun p e s m below meth c ls C hne hl hP => ?_)
  have hx := C.1.1
  have hb := C.1.2.1
  have hS : va_S (xk_A ads s.heap.size) s.heap s.heap [] := va_S.rf
  have hl : lv_has ls 4 [(0, .ref (ad 6)), (1, .int x0), (2, .int x1), (3, .int x2)] := hl
  refine lv_aload_n hx hb dd_Types_setMember_0 rfl (lv_at hl 0 rfl) ?_
  refine gf_h_Types_6_part C hP dd_Types_setMember_1 ?_
  refine lv_bipush (v := 34) hx hb dd_Types_setMember_4 (by decide) ?_
  refine lv_iload_n hx hb dd_Types_setMember_6 rfl (lv_at hl 1 rfl) ?_
  refine lv_imul hx hb dd_Types_setMember_7 ?_
  refine lv_iload_n hx hb dd_Types_setMember_8 rfl (lv_at hl 2 rfl) ?_
  refine lv_bipush (v := 16) hx hb dd_Types_setMember_9 (by decide) ?_
  refine va_mmin hx hb (C.1.2.2.1.trans hl.1.symm) C.1.2.2.2.1 (C.1.2.2.2.2 _ (xk_c4 (w := Cond.methodLink "ModuleHouse$Types" 41 Lib.Math.min.name) 189 rfl rfl)) (C.1.2.2.2.2 _ (xk_c3 (w := Cond.static Lib.Math.min.name) 164 rfl rfl)) (C.1.2.2.2.2 _ (xk_c1 (w := Cond.initialized "java/lang/Math") 24 rfl rfl)) (C.1.2.2.2.2 _ (xk_c3 (w := Cond.code Lib.Math.min.name Lib.Math.min.code 2 (some .int)) 165 rfl rfl)) (Nat.le_of_ble_eq_true rfl) (Nat.le_of_ble_eq_true rfl) (Nat.zero_le _) (Nat.zero_le _) dd_Types_setMember_11 ?_
  refine lv_iadd hx hb dd_Types_setMember_14 ?_
  refine lv_iload_n hx hb dd_Types_setMember_15 rfl (lv_at hl 3 rfl) ?_
  obtain ⟨hi, h⟩ := xp_g h
  refine as_h_11 C hP hS hi dd_Types_setMember_16 (fun H locs hP hS => ?_)
  obtain ⟨u1, eu1, h⟩ := xp_let h
  rw [← eu1] at hP
  obtain ⟨rfl, rfl⟩ := xp_r h
  exact xr_vret C hP hS dd_Types_setMember_17
abbrev rm_Reader_readFlag : Room := { frames := 7, cells := 1, slots := 6, locals := 120 }
noncomputable def fm_Reader_readFlag (u : xk_St) : Option ((Int32 ⊕ Nat) × xk_St) :=
  (xs_try (fm_Reader_readByte u) fun a1 u2 => if a1 ≤ (1 : Int32) then (some (.inl a1, u2)) else (some (.inr 0, u2)))
set_option maxHeartbeats 4000000 in
set_option maxRecDepth 100000 in
theorem ct_Reader_readFlag {l : Launch} {D : va_G} {ad : Nat → Nat} {ca : Nat → ClassId} {ads : List Nat} (htr : l.stackTraces = false) (hok : xk_ok (kw_h ad ca) ads) {u u' : xk_St} {r : (Int32 ⊕ Nat)} (h : fm_Reader_readFlag u = some (r, u')) :
    ∀ sz, xk_Met l ⟨"ModuleHouse$Reader", "readFlag", "()I"⟩ (Cond.code ⟨"ModuleHouse$Reader", "readFlag", "()I"⟩ prog_9_method_9_code 2 (some .int) :: xk_gd) rm_Reader_readFlag (xk_Pc D kx_cl (kx_ty ca) (kw_h ad ca) ads xk_F sz [.ref (ad 54)] u) (xk_Qc D kx_cl (kw_h ad ca) ads (xo_i r) u') (xk_A ads sz) := by
  unfold fm_Reader_readFlag at h
  refine xk_con (by decide) htr hok (Nat.le_of_ble_eq_true rfl) (fun p e s m below meth c ls C hne hl hP => ?_)
  have hx := C.1.1
  have hb := C.1.2.1
  have hS : va_S (xk_A ads s.heap.size) s.heap s.heap [] := va_S.rf
  have hl : lv_has ls 2 [(0, .ref (ad 54))] := hl
  refine lv_aload_n hx hb dd_Reader_readFlag_0 rfl (lv_at hl 0 rfl) ?_
  rcases xp_try h with ⟨a1, u2, hq, h⟩ | ⟨kx, ux, hq, h⟩
  rotate_left
  · obtain ⟨rfl, rfl⟩ := xp_q h
    exact xk_up (xr_V (As := []) (rest := []) C hP hS (ct_Reader_readByte htr hok hq) kq_Reader_49 54 7 rfl rfl ⟨rfl, rfl, Nat.le_of_ble_eq_true rfl, Nat.le_of_ble_eq_true rfl⟩ ⟨Nat.le_of_ble_eq_true rfl, Nat.le_of_ble_eq_true rfl⟩ hl.1 rfl rfl (Nat.le_of_ble_eq_true rfl) dd_Reader_readFlag_1) hS hne C.2.2.2.2.2.2.1
  refine xk_goesI (xr_V (As := []) (rest := []) C hP hS (ct_Reader_readByte htr hok hq) kq_Reader_49 54 7 rfl rfl ⟨rfl, rfl, Nat.le_of_ble_eq_true rfl, Nat.le_of_ble_eq_true rfl⟩ ⟨Nat.le_of_ble_eq_true rfl, Nat.le_of_ble_eq_true rfl⟩ hl.1 rfl rfl (Nat.le_of_ble_eq_true rfl) dd_Reader_readFlag_1) hS (fun H locs hP hS => ?_)
  clear hq
  refine lv_istore_n (lv' := [(1, .int a1), (0, .ref (ad 54))]) hx hb dd_Reader_readFlag_4 rfl hl (by decide) rfl (fun ls hl => ?_)
  refine lv_iload_n hx hb dd_Reader_readFlag_5 rfl (lv_at hl 0 rfl) ?_
  refine lv_iconst (v := 1) hx hb dd_Reader_readFlag_6 (by decide) ?_
  refine lv_icmp_le (tgt := 18) hx hb dd_Reader_readFlag_7 (by decide) (fun hc => ?_) (fun hc => ?_)
  · have h := xp_t hc h
    refine lv_iload_n hx hb dd_Reader_readFlag_18 rfl (lv_at hl 0 rfl) ?_
    obtain ⟨rfl, rfl⟩ := xp_r h
    exact xr_iret C hP hS dd_Reader_readFlag_19
  · have h := xp_f hc h
    obtain ⟨rfl, rfl⟩ := xp_r h
    exact xr_throw C hP hS hne kz_Reader_0 hl.1 ⟨Nat.le_of_ble_eq_true rfl, Nat.le_of_ble_eq_true rfl, Nat.le_of_ble_eq_true rfl, Nat.le_of_ble_eq_true rfl⟩ dd_Reader_readFlag_10 dd_Reader_readFlag_13 dd_Reader_readFlag_14 dd_Reader_readFlag_17
abbrev rm_Types_setOutcome : Room := { frames := 1, cells := 1, slots := 6, locals := 60 }
noncomputable def fm_Types_setOutcome (x0 : Int32) (x1 : Int32) (x2 : Int32) (u : xk_St) : Option (Unit × xk_St) :=
  (if ((((34 : Int32) * x0) + (17 : Int32)) + (if (16 : Int32) < x1 then (16 : Int32) else x1)) < 0 ∨ 2210 ≤ ((((34 : Int32) * x0) + (17 : Int32)) + (if (16 : Int32) < x1 then (16 : Int32) else x1)).toNatClampNeg then none else xs_let (xs_A u 6 ((((34 : Int32) * x0) + (17 : Int32)) + (if (16 : Int32) < x1 then (16 : Int32) else x1)).toNatClampNeg x2) fun u1 => some ((()), u1))
set_option maxHeartbeats 4000000 in
set_option maxRecDepth 100000 in
theorem ct_Types_setOutcome {l : Launch} {D : va_G} {ad : Nat → Nat} {ca : Nat → ClassId} {ads : List Nat} (htr : l.stackTraces = false) (hok : xk_ok (kw_h ad ca) ads) {x0 : Int32} {x1 : Int32} {x2 : Int32} {u u' : xk_St} {r : Unit} (h : fm_Types_setOutcome x0 x1 x2 u = some (r, u')) :
    ∀ sz, xk_Met l ⟨"ModuleHouse$Types", "setOutcome", "(III)V"⟩ (Cond.code ⟨"ModuleHouse$Types", "setOutcome", "(III)V"⟩ prog_11_method_14_code 4 none :: xk_gd) rm_Types_setOutcome (xk_Pc D kx_cl (kx_ty ca) (kw_h ad ca) ads xk_F sz [.ref (ad 6), .int x0, .int x1, .int x2] u) (xk_Qc D kx_cl (kw_h ad ca) ads (xo_v (.inl r)) u') (xk_A ads sz) := by
  unfold fm_Types_setOutcome at h
  refine xk_con (by decide) htr hok (Nat.le_of_ble_eq_true rfl) (fun p e s m below meth c ls C hne hl hP => ?_)
  have hx := C.1.1
  have hb := C.1.2.1
  have hS : va_S (xk_A ads s.heap.size) s.heap s.heap [] := va_S.rf
  have hl : lv_has ls 4 [(0, .ref (ad 6)), (1, .int x0), (2, .int x1), (3, .int x2)] := hl
  refine lv_aload_n hx hb dd_Types_setOutcome_0 rfl (lv_at hl 0 rfl) ?_
  refine gf_h_Types_6_part C hP dd_Types_setOutcome_1 ?_
  refine lv_bipush (v := 34) hx hb dd_Types_setOutcome_4 (by decide) ?_
  refine lv_iload_n hx hb dd_Types_setOutcome_6 rfl (lv_at hl 1 rfl) ?_
  refine lv_imul hx hb dd_Types_setOutcome_7 ?_
  refine lv_bipush (v := 17) hx hb dd_Types_setOutcome_8 (by decide) ?_
  refine lv_iadd hx hb dd_Types_setOutcome_10 ?_
  refine lv_iload_n hx hb dd_Types_setOutcome_11 rfl (lv_at hl 2 rfl) ?_
  refine lv_bipush (v := 16) hx hb dd_Types_setOutcome_12 (by decide) ?_
  refine va_mmin hx hb (C.1.2.2.1.trans hl.1.symm) C.1.2.2.2.1 (C.1.2.2.2.2 _ (xk_c4 (w := Cond.methodLink "ModuleHouse$Types" 41 Lib.Math.min.name) 189 rfl rfl)) (C.1.2.2.2.2 _ (xk_c3 (w := Cond.static Lib.Math.min.name) 164 rfl rfl)) (C.1.2.2.2.2 _ (xk_c1 (w := Cond.initialized "java/lang/Math") 24 rfl rfl)) (C.1.2.2.2.2 _ (xk_c3 (w := Cond.code Lib.Math.min.name Lib.Math.min.code 2 (some .int)) 165 rfl rfl)) (Nat.le_of_ble_eq_true rfl) (Nat.le_of_ble_eq_true rfl) (Nat.zero_le _) (Nat.zero_le _) dd_Types_setOutcome_14 ?_
  refine lv_iadd hx hb dd_Types_setOutcome_17 ?_
  refine lv_iload_n hx hb dd_Types_setOutcome_18 rfl (lv_at hl 3 rfl) ?_
  obtain ⟨hi, h⟩ := xp_g h
  refine as_h_11 C hP hS hi dd_Types_setOutcome_19 (fun H locs hP hS => ?_)
  obtain ⟨u1, eu1, h⟩ := xp_let h
  rw [← eu1] at hP
  obtain ⟨rfl, rfl⟩ := xp_r h
  exact xr_vret C hP hS dd_Types_setOutcome_20
