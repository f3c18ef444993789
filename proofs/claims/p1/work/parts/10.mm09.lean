abbrev rm_Model_check : Room := { frames := 8, cells := 1, slots := 6, locals := 158 }
noncomputable def jb_Model_check_37 (fu : Nat) : Nat → Int32 → xk_St → Option (Unit × xk_St)
  | 0 => fun _ _ => none
  | n + 1 => fun b1 u =>
    xs_let (jb_Model_check_37 fu  n) fun k37 =>
    if (u.1 22) ≤ (0 : Int32) then ((xs_let (xs_I u 5 (u.1 3)) fun u6 => some ((()), u6))) else (if (u.1 7) = (0 : Int32) then ((xs_let (xs_I u 23 (u.1 4)) fun u8 => xs_seq (fm_Model_instruction fu u8) fun _ u9 => if (32 : Int32) ≤ (u9.1 8) then (if (40 : Int32) ≤ (u9.1 8) then (if (65 : Int32) ≤ (u9.1 8) then (if (208 : Int32) ≤ (u9.1 8) then (if (251 : Int32) ≤ (u9.1 8) then ((xs_seq (fm_Model_checkObjects fu u9) fun _ u10 => k37 b1 u10)) else ((xs_seq (fm_Model_checkReferences fu u9) fun _ u11 => k37 b1 u11))) else ((xs_seq (fm_Model_checkNumbers u9) fun _ u12 => k37 b1 u12))) else ((xs_seq (fm_Model_checkMemory u9) fun _ u13 => k37 b1 u13))) else ((xs_seq (fm_Model_checkNames b1 u9) fun _ u14 => k37 b1 u14))) else ((xs_seq (fm_Model_checkWays fu u9) fun _ u15 => k37 b1 u15)))) else ((xs_let (xs_I u 5 (u.1 3)) fun u7 => some ((()), u7))))
noncomputable def fm_Model_check (fu : Nat) (x0 : Int32) (u : xk_St) : Option (Unit × xk_St) :=
  (xs_let (xs_I u 21 (0 : Int32)) fun u1 => xs_let (xs_I u1 22 (0 : Int32)) fun u2 => xs_let (xs_I u2 23 (0 : Int32)) fun u3 => if x0 < 0 ∨ 64 ≤ x0.toNatClampNeg then none else xs_let (xs_I u3 5 (u3.2.2.1 11 x0.toNatClampNeg)) fun u4 => if x0 < 0 ∨ 64 ≤ x0.toNatClampNeg then none else xs_seq (fm_Model_open (0 : Int32) ((u4.2.2.1 9 x0.toNatClampNeg).toInt64) u4) fun _ u5 => jb_Model_check_37 fu fu x0 u5)
set_option maxHeartbeats 4000000 in
set_option maxRecDepth 100000 in
theorem wj_Model_check_37 {p : Program} {l : Launch} {e : Env} {s : State} {m : MethodId} {args : Array Value} {below : List Frame} {meth : Method} {c : Code} {D : va_G} {ad : Nat → Nat} {ca : Nat → ClassId} {ads : List Nat} {fu : Nat} (htr : l.stackTraces = false) (C : xk_C D kx_cl (kx_ty ca) (kw_m ad ca) ads "ModuleHouseModel" prog_14_method_73_code 2 none p e s m args meth c) (hne : c.exceptionTable.isEmpty = true) {u' : xk_St} {r : Unit} : ∀ {n : Nat} {b1 : Int32} {u : xk_St} {H : Heap} {locs : List Loc} {ls : Array Slot} (h : jb_Model_check_37 fu  n b1 u = some (r, u')) (hP : va_P D kx_cl (kw_m ad ca u) H) (hS : va_S (xk_A ads s.heap.size) s.heap H locs) (hl : lv_has ls 2 [(0, .ref (ad 0)), (1, .int b1)]), W p l e rm_Model_check s m args below meth c H locs 0 0 (xk_MQ below (xk_Qc D kx_cl (kw_m ad ca) ads (xo_v (.inl r)) u') args s (xk_A ads s.heap.size)) (F0 m 37 ls []) := by
  intro n
  have hx := C.1.1
  have hb := C.1.2.1
  have hok := C.2.2.1
  induction n with
  | zero =>
    intro _ u H locs ls h
    have h : none = some (r, u') := h
    cases h
  | succ n ih =>
    intro b1 u H locs ls h hP hS hl
    unfold jb_Model_check_37 at h
    obtain ⟨k37, ek37, h⟩ := xp_let h
    have hk37 : ∀ (c0 : Int32) (u : xk_St) (H : Heap) (locs : List Loc) (ls : Array Slot), k37 c0 u = some (r, u') → va_P D kx_cl (kw_m ad ca u) H → va_S (xk_A ads s.heap.size) s.heap H locs → lv_has ls 2 [(0, .ref (ad 0)), (1, .int c0)] → W p l e rm_Model_check s m args below meth c H locs 0 0 (xk_MQ below (xk_Qc D kx_cl (kw_m ad ca) ads (xo_v (.inl r)) u') args s (xk_A ads s.heap.size)) (F0 m 37 ls []) := by
      intro c0 u H locs ls h hP hS hl
      subst ek37
      exact ih h hP hS hl
    clear ih ek37
    refine lv_aload_n hx hb dd_Model_check_37 rfl (lv_at hl 0 rfl) ?_
    refine gf_m_Model_0_blocks C hP dd_Model_check_38 ?_
    refine lv_if_le (tgt := 153) hx hb dd_Model_check_41 (by decide) (fun hc => ?_) (fun hc => ?_)
    · have h := xp_t hc h
      refine lv_aload_n hx hb dd_Model_check_153 rfl (lv_at hl 0 rfl) ?_
      refine lv_aload_n hx hb dd_Model_check_154 rfl (lv_at hl 0 rfl) ?_
      refine gf_m_Model_0_codeMany C hP dd_Model_check_155 ?_
      refine pf_m_Model_0_limit C hP hS dd_Model_check_158 (fun H locs hP hS => ?_)
      obtain ⟨u6, eu6, h⟩ := xp_let h
      rw [← eu6] at hP
      obtain ⟨rfl, rfl⟩ := xp_r h
      exact xr_vret C hP hS dd_Model_check_161
    · have h := xp_f hc h
      refine lv_aload_n hx hb dd_Model_check_44 rfl (lv_at hl 0 rfl) ?_
      refine gf_m_Model_0_wrong C hP dd_Model_check_45 ?_
      refine lv_if_ne (tgt := 153) hx hb dd_Model_check_48 (by decide) (fun hc => ?_) (fun hc => ?_)
      · have h := xp_f hc h
        refine lv_aload_n hx hb dd_Model_check_153 rfl (lv_at hl 0 rfl) ?_
        refine lv_aload_n hx hb dd_Model_check_154 rfl (lv_at hl 0 rfl) ?_
        refine gf_m_Model_0_codeMany C hP dd_Model_check_155 ?_
        refine pf_m_Model_0_limit C hP hS dd_Model_check_158 (fun H locs hP hS => ?_)
        obtain ⟨u7, eu7, h⟩ := xp_let h
        rw [← eu7] at hP
        obtain ⟨rfl, rfl⟩ := xp_r h
        exact xr_vret C hP hS dd_Model_check_161
      · have h := xp_t hc h
        refine lv_aload_n hx hb dd_Model_check_51 rfl (lv_at hl 0 rfl) ?_
        refine lv_aload_n hx hb dd_Model_check_52 rfl (lv_at hl 0 rfl) ?_
        refine gf_m_Model_0_at C hP dd_Model_check_53 ?_
        refine pf_m_Model_0_here C hP hS dd_Model_check_56 (fun H locs hP hS => ?_)
        obtain ⟨u8, eu8, h⟩ := xp_let h
        rw [← eu8] at hP
        refine lv_aload_n hx hb dd_Model_check_59 rfl (lv_at hl 0 rfl) ?_
        obtain ⟨rx, u9, hq, h⟩ := xp_seq h
        refine xk_goesV (xr_V (As := []) (rest := []) C hP hS (ct_Model_instruction htr hok hq) kq_Model_381 0 11 rfl rfl ⟨rfl, rfl, Nat.le_of_ble_eq_true rfl, Nat.le_of_ble_eq_true rfl⟩ ⟨Nat.le_of_ble_eq_true rfl, Nat.le_of_ble_eq_true rfl⟩ hl.1 rfl rfl (Nat.le_of_ble_eq_true rfl) dd_Model_check_60) hS (fun H locs hP hS => ?_)
        clear hq
        refine lv_aload_n hx hb dd_Model_check_63 rfl (lv_at hl 0 rfl) ?_
        refine gf_m_Model_0_op C hP dd_Model_check_64 ?_
        refine lv_bipush (v := 32) hx hb dd_Model_check_67 (by decide) ?_
        refine lv_icmp_ge (tgt := 79) hx hb dd_Model_check_69 (by decide) (fun hc => ?_) (fun hc => ?_)
        · have h := xp_t hc h
          refine lv_aload_n hx hb dd_Model_check_79 rfl (lv_at hl 0 rfl) ?_
          refine gf_m_Model_0_op C hP dd_Model_check_80 ?_
          refine lv_bipush (v := 40) hx hb dd_Model_check_83 (by decide) ?_
          refine lv_icmp_ge (tgt := 96) hx hb dd_Model_check_85 (by decide) (fun hc => ?_) (fun hc => ?_)
          · have h := xp_t hc h
            refine lv_aload_n hx hb dd_Model_check_96 rfl (lv_at hl 0 rfl) ?_
            refine gf_m_Model_0_op C hP dd_Model_check_97 ?_
            refine lv_bipush (v := 65) hx hb dd_Model_check_100 (by decide) ?_
            refine lv_icmp_ge (tgt := 112) hx hb dd_Model_check_102 (by decide) (fun hc => ?_) (fun hc => ?_)
            · have h := xp_t hc h
              refine lv_aload_n hx hb dd_Model_check_112 rfl (lv_at hl 0 rfl) ?_
              refine gf_m_Model_0_op C hP dd_Model_check_113 ?_
              refine lv_sipush (v := 208) hx hb dd_Model_check_116 (by decide) ?_
              refine lv_icmp_ge (tgt := 129) hx hb dd_Model_check_119 (by decide) (fun hc => ?_) (fun hc => ?_)
              · have h := xp_t hc h
                refine lv_aload_n hx hb dd_Model_check_129 rfl (lv_at hl 0 rfl) ?_
                refine gf_m_Model_0_op C hP dd_Model_check_130 ?_
                refine lv_sipush (v := 251) hx hb dd_Model_check_133 (by decide) ?_
                refine lv_icmp_ge (tgt := 146) hx hb dd_Model_check_136 (by decide) (fun hc => ?_) (fun hc => ?_)
                · have h := xp_t hc h
                  refine lv_aload_n hx hb dd_Model_check_146 rfl (lv_at hl 0 rfl) ?_
                  obtain ⟨rx, u10, hq, h⟩ := xp_seq h
                  refine xk_goesV (xr_V (As := []) (rest := []) C hP hS (ct_Model_checkObjects htr hok hq) kq_Model_542 0 11 rfl rfl ⟨rfl, rfl, Nat.le_of_ble_eq_true rfl, Nat.le_of_ble_eq_true rfl⟩ ⟨Nat.le_of_ble_eq_true rfl, Nat.le_of_ble_eq_true rfl⟩ hl.1 rfl rfl (Nat.le_of_ble_eq_true rfl) dd_Model_check_147) hS (fun H locs hP hS => ?_)
                  clear hq
                  refine lv_goto (tgt := 37) hx hb dd_Model_check_150 (by decide) ?_
                  exact hk37 b1 u10 _ _ _ h hP hS (lv_sub hl [0, 1] rfl)
                · have h := xp_f hc h
                  refine lv_aload_n hx hb dd_Model_check_139 rfl (lv_at hl 0 rfl) ?_
                  obtain ⟨rx, u11, hq, h⟩ := xp_seq h
                  refine xk_goesV (xr_V (As := []) (rest := []) C hP hS (ct_Model_checkReferences htr hok hq) kq_Model_539 0 11 rfl rfl ⟨rfl, rfl, Nat.le_of_ble_eq_true rfl, Nat.le_of_ble_eq_true rfl⟩ ⟨Nat.le_of_ble_eq_true rfl, Nat.le_of_ble_eq_true rfl⟩ hl.1 rfl rfl (Nat.le_of_ble_eq_true rfl) dd_Model_check_140) hS (fun H locs hP hS => ?_)
                  clear hq
                  refine lv_goto (tgt := 37) hx hb dd_Model_check_143 (by decide) ?_
                  exact hk37 b1 u11 _ _ _ h hP hS (lv_sub hl [0, 1] rfl)
              · have h := xp_f hc h
                refine lv_aload_n hx hb dd_Model_check_122 rfl (lv_at hl 0 rfl) ?_
                obtain ⟨rx, u12, hq, h⟩ := xp_seq h
                refine xk_goesV (xr_V (As := []) (rest := []) C hP hS (ct_Model_checkNumbers htr hok hq) kq_Model_536 0 11 rfl rfl ⟨rfl, rfl, Nat.le_of_ble_eq_true rfl, Nat.le_of_ble_eq_true rfl⟩ ⟨Nat.le_of_ble_eq_true rfl, Nat.le_of_ble_eq_true rfl⟩ hl.1 rfl rfl (Nat.le_of_ble_eq_true rfl) dd_Model_check_123) hS (fun H locs hP hS => ?_)
                clear hq
                refine lv_goto (tgt := 37) hx hb dd_Model_check_126 (by decide) ?_
                exact hk37 b1 u12 _ _ _ h hP hS (lv_sub hl [0, 1] rfl)
            · have h := xp_f hc h
              refine lv_aload_n hx hb dd_Model_check_105 rfl (lv_at hl 0 rfl) ?_
              obtain ⟨rx, u13, hq, h⟩ := xp_seq h
              refine xk_goesV (xr_V (As := []) (rest := []) C hP hS (ct_Model_checkMemory htr hok hq) kq_Model_533 0 11 rfl rfl ⟨rfl, rfl, Nat.le_of_ble_eq_true rfl, Nat.le_of_ble_eq_true rfl⟩ ⟨Nat.le_of_ble_eq_true rfl, Nat.le_of_ble_eq_true rfl⟩ hl.1 rfl rfl (Nat.le_of_ble_eq_true rfl) dd_Model_check_106) hS (fun H locs hP hS => ?_)
              clear hq
              refine lv_goto (tgt := 37) hx hb dd_Model_check_109 (by decide) ?_
              exact hk37 b1 u13 _ _ _ h hP hS (lv_sub hl [0, 1] rfl)
          · have h := xp_f hc h
            refine lv_aload_n hx hb dd_Model_check_88 rfl (lv_at hl 0 rfl) ?_
            refine lv_iload_n hx hb dd_Model_check_89 rfl (lv_at hl 1 rfl) ?_
            obtain ⟨rx, u14, hq, h⟩ := xp_seq h
            refine xk_goesV (xr_V (As := [.int b1]) (rest := []) C hP hS (ct_Model_checkNames htr hok hq) kq_Model_530 0 11 rfl rfl ⟨rfl, rfl, Nat.le_of_ble_eq_true rfl, Nat.le_of_ble_eq_true rfl⟩ ⟨Nat.le_of_ble_eq_true rfl, Nat.le_of_ble_eq_true rfl⟩ hl.1 rfl rfl (Nat.le_of_ble_eq_true rfl) dd_Model_check_90) hS (fun H locs hP hS => ?_)
            clear hq
            refine lv_goto (tgt := 37) hx hb dd_Model_check_93 (by decide) ?_
            exact hk37 b1 u14 _ _ _ h hP hS (lv_sub hl [0, 1] rfl)
        · have h := xp_f hc h
          refine lv_aload_n hx hb dd_Model_check_72 rfl (lv_at hl 0 rfl) ?_
          obtain ⟨rx, u15, hq, h⟩ := xp_seq h
          refine xk_goesV (xr_V (As := []) (rest := []) C hP hS (ct_Model_checkWays htr hok hq) kq_Model_527 0 11 rfl rfl ⟨rfl, rfl, Nat.le_of_ble_eq_true rfl, Nat.le_of_ble_eq_true rfl⟩ ⟨Nat.le_of_ble_eq_true rfl, Nat.le_of_ble_eq_true rfl⟩ hl.1 rfl rfl (Nat.le_of_ble_eq_true rfl) dd_Model_check_73) hS (fun H locs hP hS => ?_)
          clear hq
          refine lv_goto (tgt := 37) hx hb dd_Model_check_76 (by decide) ?_
          exact hk37 b1 u15 _ _ _ h hP hS (lv_sub hl [0, 1] rfl)
set_option maxHeartbeats 4000000 in
set_option maxRecDepth 100000 in
theorem ct_Model_check {l : Launch} {D : va_G} {ad : Nat → Nat} {ca : Nat → ClassId} {ads : List Nat} (htr : l.stackTraces = false) (hok : xk_ok (kw_m ad ca) ads) {fu : Nat} {x0 : Int32} {u u' : xk_St} {r : Unit} (h : fm_Model_check fu x0 u = some (r, u')) :
    ∀ sz, xk_Met l ⟨"ModuleHouseModel", "check", "(I)V"⟩ (Cond.code ⟨"ModuleHouseModel", "check", "(I)V"⟩ prog_14_method_73_code 2 none :: xk_gd) rm_Model_check (xk_Pc D kx_cl (kx_ty ca) (kw_m ad ca) ads xk_F sz [.ref (ad 0), .int x0] u) (xk_Qc D kx_cl (kw_m ad ca) ads (xo_v (.inl r)) u') (xk_A ads sz) := by
  unfold fm_Model_check at h
  refine xk_con (by decide) htr hok (Nat.le_of_ble_eq_true rfl) (fun p e s m below meth c ls C hne hl hP => ?_)
  have hx := C.1.1
  have hb := C.1.2.1
  have hS : va_S (xk_A ads s.heap.size) s.heap s.heap [] := va_S.rf
  have hl : lv_has ls 2 [(0, .ref (ad 0)), (1, .int x0)] := hl
  refine lv_aload_n hx hb dd_Model_check_0 rfl (lv_at hl 0 rfl) ?_
  refine lv_iconst (v := 0) hx hb dd_Model_check_1 (by decide) ?_
  refine pf_m_Model_0_high C hP hS dd_Model_check_2 (fun H locs hP hS => ?_)
  obtain ⟨u1, eu1, h⟩ := xp_let h
  rw [← eu1] at hP
  refine lv_aload_n hx hb dd_Model_check_5 rfl (lv_at hl 0 rfl) ?_
  refine lv_iconst (v := 0) hx hb dd_Model_check_6 (by decide) ?_
  refine pf_m_Model_0_blocks C hP hS dd_Model_check_7 (fun H locs hP hS => ?_)
  obtain ⟨u2, eu2, h⟩ := xp_let h
  rw [← eu2] at hP
  refine lv_aload_n hx hb dd_Model_check_10 rfl (lv_at hl 0 rfl) ?_
  refine lv_iconst (v := 0) hx hb dd_Model_check_11 (by decide) ?_
  refine pf_m_Model_0_here C hP hS dd_Model_check_12 (fun H locs hP hS => ?_)
  obtain ⟨u3, eu3, h⟩ := xp_let h
  rw [← eu3] at hP
  refine lv_aload_n hx hb dd_Model_check_15 rfl (lv_at hl 0 rfl) ?_
  refine lv_aload_n hx hb dd_Model_check_16 rfl (lv_at hl 0 rfl) ?_
  refine gf_m_Model_0_bodyEnd C hP dd_Model_check_17 ?_
  refine lv_iload_n hx hb dd_Model_check_20 rfl (lv_at hl 1 rfl) ?_
  obtain ⟨hi, h⟩ := xp_g h
  refine al_m_13 C hP hi dd_Model_check_21 ?_
  refine pf_m_Model_0_limit C hP hS dd_Model_check_22 (fun H locs hP hS => ?_)
  obtain ⟨u4, eu4, h⟩ := xp_let h
  rw [← eu4] at hP
  refine lv_aload_n hx hb dd_Model_check_25 rfl (lv_at hl 0 rfl) ?_
  refine lv_iconst (v := 0) hx hb dd_Model_check_26 (by decide) ?_
  refine lv_aload_n hx hb dd_Model_check_27 rfl (lv_at hl 0 rfl) ?_
  refine gf_m_Model_0_functionType C hP dd_Model_check_28 ?_
  refine lv_iload_n hx hb dd_Model_check_31 rfl (lv_at hl 1 rfl) ?_
  obtain ⟨hi, h⟩ := xp_g h
  refine al_m_11 C hP hi dd_Model_check_32 ?_
  refine lv_i2l hx hb dd_Model_check_33 rfl ?_
  obtain ⟨rx, u5, hq, h⟩ := xp_seq h
  refine xk_goesV (xr_V (As := [.int (0 : Int32), .long ((u4.2.2.1 9 x0.toNatClampNeg).toInt64)]) (rest := []) C hP hS (ct_Model_open htr hok hq) kq_Model_523 0 11 rfl rfl ⟨rfl, rfl, Nat.le_of_ble_eq_true rfl, Nat.le_of_ble_eq_true rfl⟩ ⟨Nat.le_of_ble_eq_true rfl, Nat.le_of_ble_eq_true rfl⟩ hl.1 rfl rfl (Nat.le_of_ble_eq_true rfl) dd_Model_check_34) hS (fun H locs hP hS => ?_)
  clear hq
  exact wj_Model_check_37 htr C hne h hP hS (lv_sub hl [0, 1] rfl)
abbrev rm_Model_bodyRow : Room := { frames := 9, cells := 1, slots := 6, locals := 179 }
noncomputable def jb_Model_bodyRow_123 (fu : Nat) (k57 : Int32 → xk_St → Option (Unit × xk_St)) (b3 : Int32) (b6 : Int32) (u : xk_St) : Option (Unit × xk_St) :=
  (xs_let (xs_I u 4 b6) fun u8 => xs_let (b3 + (1 : Int32)) fun a9 => k57 a9 u8)
noncomputable def jb_Model_bodyRow_57 (fu : Nat) : Nat → Int32 → xk_St → Option (Unit × xk_St)
  | 0 => fun _ _ => none
  | n + 1 => fun b3 u =>
    xs_let (jb_Model_bodyRow_57 fu  n) fun k57 =>
    if (u.1 13) ≤ b3 then (some ((()), u)) else (if (u.1 7) = (0 : Int32) then ((xs_seq (fm_Model_number fu u) fun a2 u3 => xs_let ((u3.1 4) + (a2.toInt32)) fun a4 => if b3 < 0 ∨ 64 ≤ b3.toNatClampNeg then none else xs_let (xs_A u3 11 b3.toNatClampNeg a4) fun u5 => xs_seq (fm_Model_localRow fu b3 u5) fun _ u6 => if b3 < 0 ∨ 64 ≤ b3.toNatClampNeg then none else xs_let (xs_A u6 10 b3.toNatClampNeg (u6.1 4)) fun u7 => if (u7.1 7) = (0 : Int32) then ((xs_seq (fm_Model_check fu b3 u7) fun _ u10 => jb_Model_bodyRow_123 fu k57 b3 a4 u10)) else (jb_Model_bodyRow_123 fu k57 b3 a4 u7))) else (some ((()), u)))
noncomputable def jb_Model_bodyRow_52 (fu : Nat) (s0 : Int32) (u : xk_St) : Option (Unit × xk_St) :=
  (if s0 = 0 ∨ s0 = 1 then ( xs_let (xs_I u 7 s0) fun u1 => jb_Model_bodyRow_57 fu fu (0 : Int32) u1  ) else none)
noncomputable def jb_Model_bodyRow_36 (fu : Nat) (b1 : Int64) (u : xk_St) : Option (Unit × xk_St) :=
  if b1 = ((u.1 13).toInt64) then (jb_Model_bodyRow_52 fu (0 : Int32) u) else (jb_Model_bodyRow_52 fu (1 : Int32) u)
noncomputable def fm_Model_bodyRow (fu : Nat) (u : xk_St) : Option (Unit × xk_St) :=
  (if (10 : Int32) < 0 ∨ 12 ≤ (10 : Int32).toNatClampNeg then none else if (u.2.2.1 2 (10 : Int32).toNatClampNeg) < (0 : Int32) then (jb_Model_bodyRow_36 fu (0 : Int64) u) else ((if (10 : Int32) < 0 ∨ 12 ≤ (10 : Int32).toNatClampNeg then none else xs_let (xs_I u 4 (u.2.2.1 2 (10 : Int32).toNatClampNeg)) fun u11 => xs_let (xs_I u11 5 (u11.1 3)) fun u12 => xs_seq (fm_Model_number fu u12) fun a13 u14 => jb_Model_bodyRow_36 fu a13 u14)))
set_option maxHeartbeats 4000000 in
set_option maxRecDepth 100000 in
theorem wj_Model_bodyRow_123 {p : Program} {l : Launch} {e : Env} {s : State} {m : MethodId} {args : Array Value} {below : List Frame} {meth : Method} {c : Code} {D : va_G} {ad : Nat → Nat} {ca : Nat → ClassId} {ads : List Nat} {fu : Nat} (htr : l.stackTraces = false) (C : xk_C D kx_cl (kx_ty ca) (kw_m ad ca) ads "ModuleHouseModel" prog_14_method_56_code 7 none p e s m args meth c) (hne : c.exceptionTable.isEmpty = true) {u' : xk_St} {r : Unit} {k57 : Int32 → xk_St → Option (Unit × xk_St)} (hk57 : ∀ (c0 : Int32) (u : xk_St) (H : Heap) (locs : List Loc) (ls : Array Slot), k57 c0 u = some (r, u') → va_P D kx_cl (kw_m ad ca u) H → va_S (xk_A ads s.heap.size) s.heap H locs → lv_has ls 7 [(0, .ref (ad 0)), (3, .int c0)] → W p l e rm_Model_bodyRow s m args below meth c H locs 0 0 (xk_MQ below (xk_Qc D kx_cl (kw_m ad ca) ads (xo_v (.inl r)) u') args s (xk_A ads s.heap.size)) (F0 m 57 ls [])) {b3 : Int32} {b6 : Int32} {u : xk_St} {H : Heap} {locs : List Loc} {ls : Array Slot} (h : jb_Model_bodyRow_123 fu k57 b3 b6 u = some (r, u')) (hP : va_P D kx_cl (kw_m ad ca u) H) (hS : va_S (xk_A ads s.heap.size) s.heap H locs) (hl : lv_has ls 7 [(0, .ref (ad 0)), (3, .int b3), (6, .int b6)]) : W p l e rm_Model_bodyRow s m args below meth c H locs 0 0 (xk_MQ below (xk_Qc D kx_cl (kw_m ad ca) ads (xo_v (.inl r)) u') args s (xk_A ads s.heap.size)) (F0 m 123 ls []) := by
  have hx := C.1.1
  have hb := C.1.2.1
  have hok := C.2.2.1
  unfold jb_Model_bodyRow_123 at h
  refine lv_aload_n hx hb dd_Model_bodyRow_123 rfl (lv_at hl 0 rfl) ?_
  refine lv_iload hx hb dd_Model_bodyRow_124 (lv_at hl 2 rfl) ?_
  refine pf_m_Model_0_at C hP hS dd_Model_bodyRow_126 (fun H locs hP hS => ?_)
  obtain ⟨u8, eu8, h⟩ := xp_let h
  rw [← eu8] at hP
  obtain ⟨a9, ea9, h⟩ := xp_let h
  refine lv_iinc (v := a9) (lv' := [(3, .int a9), (0, .ref (ad 0)), (6, .int b6)]) hx hb dd_Model_bodyRow_129 hl (k := 1) rfl (by rw [ea9]; first | rfl | decide) (by decide) rfl (fun ls hl => ?_)
  refine lv_goto (tgt := 57) hx hb dd_Model_bodyRow_132 (by decide) ?_
  exact hk57 a9 u8 _ _ _ h hP hS (lv_sub hl [1, 0] rfl)
set_option maxHeartbeats 4000000 in
set_option maxRecDepth 100000 in
theorem wj_Model_bodyRow_57 {p : Program} {l : Launch} {e : Env} {s : State} {m : MethodId} {args : Array Value} {below : List Frame} {meth : Method} {c : Code} {D : va_G} {ad : Nat → Nat} {ca : Nat → ClassId} {ads : List Nat} {fu : Nat} (htr : l.stackTraces = false) (C : xk_C D kx_cl (kx_ty ca) (kw_m ad ca) ads "ModuleHouseModel" prog_14_method_56_code 7 none p e s m args meth c) (hne : c.exceptionTable.isEmpty = true) {u' : xk_St} {r : Unit} : ∀ {n : Nat} {b3 : Int32} {u : xk_St} {H : Heap} {locs : List Loc} {ls : Array Slot} (h : jb_Model_bodyRow_57 fu  n b3 u = some (r, u')) (hP : va_P D kx_cl (kw_m ad ca u) H) (hS : va_S (xk_A ads s.heap.size) s.heap H locs) (hl : lv_has ls 7 [(0, .ref (ad 0)), (3, .int b3)]), W p l e rm_Model_bodyRow s m args below meth c H locs 0 0 (xk_MQ below (xk_Qc D kx_cl (kw_m ad ca) ads (xo_v (.inl r)) u') args s (xk_A ads s.heap.size)) (F0 m 57 ls []) := by
  intro n
  have hx := C.1.1
  have hb := C.1.2.1
  have hok := C.2.2.1
  induction n with
  | zero =>
    intro _ u H locs ls h
    have h : none = some (r, u') := h
    cases h
  | succ n ih =>
    intro b3 u H locs ls h hP hS hl
    unfold jb_Model_bodyRow_57 at h
    obtain ⟨k57, ek57, h⟩ := xp_let h
    have hk57 : ∀ (c0 : Int32) (u : xk_St) (H : Heap) (locs : List Loc) (ls : Array Slot), k57 c0 u = some (r, u') → va_P D kx_cl (kw_m ad ca u) H → va_S (xk_A ads s.heap.size) s.heap H locs → lv_has ls 7 [(0, .ref (ad 0)), (3, .int c0)] → W p l e rm_Model_bodyRow s m args below meth c H locs 0 0 (xk_MQ below (xk_Qc D kx_cl (kw_m ad ca) ads (xo_v (.inl r)) u') args s (xk_A ads s.heap.size)) (F0 m 57 ls []) := by
      intro c0 u H locs ls h hP hS hl
      subst ek57
      exact ih h hP hS hl
    clear ih ek57
    refine lv_iload_n hx hb dd_Model_bodyRow_57 rfl (lv_at hl 1 rfl) ?_
    refine lv_aload_n hx hb dd_Model_bodyRow_58 rfl (lv_at hl 0 rfl) ?_
    refine gf_m_Model_0_functions C hP dd_Model_bodyRow_59 ?_
    refine lv_icmp_ge (tgt := 135) hx hb dd_Model_bodyRow_62 (by decide) (fun hc => ?_) (fun hc => ?_)
    · have h := xp_t hc h
      obtain ⟨rfl, rfl⟩ := xp_r h
      exact xr_vret C hP hS dd_Model_bodyRow_135
    · have h := xp_f hc h
      refine lv_aload_n hx hb dd_Model_bodyRow_65 rfl (lv_at hl 0 rfl) ?_
      refine gf_m_Model_0_wrong C hP dd_Model_bodyRow_66 ?_
      refine lv_if_ne (tgt := 135) hx hb dd_Model_bodyRow_69 (by decide) (fun hc => ?_) (fun hc => ?_)
      · have h := xp_f hc h
        obtain ⟨rfl, rfl⟩ := xp_r h
        exact xr_vret C hP hS dd_Model_bodyRow_135
      · have h := xp_t hc h
        refine lv_aload_n hx hb dd_Model_bodyRow_72 rfl (lv_at hl 0 rfl) ?_
        obtain ⟨a2, u3, hq, h⟩ := xp_seq h
        refine xk_goesL (xr_V (As := []) (rest := []) C hP hS (ct_Model_number htr hok hq) kq_Model_295 0 11 rfl rfl ⟨rfl, rfl, Nat.le_of_ble_eq_true rfl, Nat.le_of_ble_eq_true rfl⟩ ⟨Nat.le_of_ble_eq_true rfl, Nat.le_of_ble_eq_true rfl⟩ hl.1 rfl rfl (Nat.le_of_ble_eq_true rfl) dd_Model_bodyRow_73) hS (fun H locs hP hS => ?_)
        clear hq
        refine lv_lstore (lv' := [(4, .long a2), (0, .ref (ad 0)), (3, .int b3)]) hx hb dd_Model_bodyRow_76 hl (by decide) rfl (fun ls hl => ?_)
        refine lv_aload_n hx hb dd_Model_bodyRow_78 rfl (lv_at hl 1 rfl) ?_
        refine gf_m_Model_0_at C hP dd_Model_bodyRow_79 ?_
        refine lv_lload hx hb dd_Model_bodyRow_82 (lv_at hl 0 rfl) ?_
        refine lv_l2i hx hb dd_Model_bodyRow_84 rfl ?_
        refine lv_iadd hx hb dd_Model_bodyRow_85 ?_
        obtain ⟨a4, ea4, h⟩ := xp_let h
        refine xr_nami ea4 ?_
        refine lv_istore (lv' := [(6, .int a4), (4, .long a2), (0, .ref (ad 0)), (3, .int b3)]) hx hb dd_Model_bodyRow_86 hl (by decide) rfl (fun ls hl => ?_)
        refine lv_aload_n hx hb dd_Model_bodyRow_88 rfl (lv_at hl 2 rfl) ?_
        refine gf_m_Model_0_bodyEnd C hP dd_Model_bodyRow_89 ?_
        refine lv_iload_n hx hb dd_Model_bodyRow_92 rfl (lv_at hl 3 rfl) ?_
        refine lv_iload hx hb dd_Model_bodyRow_93 (lv_at hl 0 rfl) ?_
        obtain ⟨hi, h⟩ := xp_g h
        refine as_m_13 C hP hS hi dd_Model_bodyRow_95 (fun H locs hP hS => ?_)
        obtain ⟨u5, eu5, h⟩ := xp_let h
        rw [← eu5] at hP
        refine lv_aload_n hx hb dd_Model_bodyRow_96 rfl (lv_at hl 2 rfl) ?_
        refine lv_iload_n hx hb dd_Model_bodyRow_97 rfl (lv_at hl 3 rfl) ?_
        obtain ⟨rx, u6, hq, h⟩ := xp_seq h
        refine xk_goesV (xr_V (As := [.int b3]) (rest := []) C hP hS (ct_Model_localRow htr hok hq) kq_Model_481 0 11 rfl rfl ⟨rfl, rfl, Nat.le_of_ble_eq_true rfl, Nat.le_of_ble_eq_true rfl⟩ ⟨Nat.le_of_ble_eq_true rfl, Nat.le_of_ble_eq_true rfl⟩ hl.1 rfl rfl (Nat.le_of_ble_eq_true rfl) dd_Model_bodyRow_98) hS (fun H locs hP hS => ?_)
        clear hq
        refine lv_aload_n hx hb dd_Model_bodyRow_101 rfl (lv_at hl 2 rfl) ?_
        refine gf_m_Model_0_bodyAt C hP dd_Model_bodyRow_102 ?_
        refine lv_iload_n hx hb dd_Model_bodyRow_105 rfl (lv_at hl 3 rfl) ?_
        refine lv_aload_n hx hb dd_Model_bodyRow_106 rfl (lv_at hl 2 rfl) ?_
        refine gf_m_Model_0_at C hP dd_Model_bodyRow_107 ?_
        obtain ⟨hi, h⟩ := xp_g h
        refine as_m_12 C hP hS hi dd_Model_bodyRow_110 (fun H locs hP hS => ?_)
        obtain ⟨u7, eu7, h⟩ := xp_let h
        rw [← eu7] at hP
        refine lv_aload_n hx hb dd_Model_bodyRow_111 rfl (lv_at hl 2 rfl) ?_
        refine gf_m_Model_0_wrong C hP dd_Model_bodyRow_112 ?_
        refine lv_if_ne (tgt := 123) hx hb dd_Model_bodyRow_115 (by decide) (fun hc => ?_) (fun hc => ?_)
        · have h := xp_f hc h
          exact wj_Model_bodyRow_123 htr C hne hk57 h hP hS (lv_sub hl [2, 3, 0] rfl)
        · have h := xp_t hc h
          refine lv_aload_n hx hb dd_Model_bodyRow_118 rfl (lv_at hl 2 rfl) ?_
          refine lv_iload_n hx hb dd_Model_bodyRow_119 rfl (lv_at hl 3 rfl) ?_
          obtain ⟨rx, u10, hq, h⟩ := xp_seq h
          refine xk_goesV (xr_V (As := [.int b3]) (rest := []) C hP hS (ct_Model_check htr hok hq) kq_Model_484 0 11 rfl rfl ⟨rfl, rfl, Nat.le_of_ble_eq_true rfl, Nat.le_of_ble_eq_true rfl⟩ ⟨Nat.le_of_ble_eq_true rfl, Nat.le_of_ble_eq_true rfl⟩ hl.1 rfl rfl (Nat.le_of_ble_eq_true rfl) dd_Model_bodyRow_120) hS (fun H locs hP hS => ?_)
          clear hq
          exact wj_Model_bodyRow_123 htr C hne hk57 h hP hS (lv_sub hl [2, 3, 0] rfl)
set_option maxHeartbeats 4000000 in
set_option maxRecDepth 100000 in
theorem wj_Model_bodyRow_52 {p : Program} {l : Launch} {e : Env} {s : State} {m : MethodId} {args : Array Value} {below : List Frame} {meth : Method} {c : Code} {D : va_G} {ad : Nat → Nat} {ca : Nat → ClassId} {ads : List Nat} {fu : Nat} (htr : l.stackTraces = false) (C : xk_C D kx_cl (kx_ty ca) (kw_m ad ca) ads "ModuleHouseModel" prog_14_method_56_code 7 none p e s m args meth c) (hne : c.exceptionTable.isEmpty = true) {u' : xk_St} {r : Unit} {s0 : Int32} {u : xk_St} {H : Heap} {locs : List Loc} {ls : Array Slot} (h : jb_Model_bodyRow_52 fu  s0 u = some (r, u')) (hP : va_P D kx_cl (kw_m ad ca u) H) (hS : va_S (xk_A ads s.heap.size) s.heap H locs) (hl : lv_has ls 7 [(0, .ref (ad 0))]) : W p l e rm_Model_bodyRow s m args below meth c H locs 0 0 (xk_MQ below (xk_Qc D kx_cl (kw_m ad ca) ads (xo_v (.inl r)) u') args s (xk_A ads s.heap.size)) (F0 m 52 ls [.int s0, .ref (ad 0)]) := by
  have hx := C.1.1
  have hb := C.1.2.1
  have hok := C.2.2.1
  unfold jb_Model_bodyRow_52 at h
  obtain ⟨hz, h⟩ := xp_p h
  refine pf_m_Model_0_wrong C hP hS hz dd_Model_bodyRow_52 (fun H locs hP hS => ?_)
  obtain ⟨u1, eu1, h⟩ := xp_let h
  rw [← eu1] at hP
  refine lv_iconst (v := 0) hx hb dd_Model_bodyRow_55 (by decide) ?_
  refine lv_istore_n (lv' := [(3, .int (0 : Int32)), (0, .ref (ad 0))]) hx hb dd_Model_bodyRow_56 rfl hl (by decide) rfl (fun ls hl => ?_)
  exact wj_Model_bodyRow_57 htr C hne h hP hS (lv_sub hl [1, 0] rfl)
set_option maxHeartbeats 4000000 in
set_option maxRecDepth 100000 in
theorem wj_Model_bodyRow_36 {p : Program} {l : Launch} {e : Env} {s : State} {m : MethodId} {args : Array Value} {below : List Frame} {meth : Method} {c : Code} {D : va_G} {ad : Nat → Nat} {ca : Nat → ClassId} {ads : List Nat} {fu : Nat} (htr : l.stackTraces = false) (C : xk_C D kx_cl (kx_ty ca) (kw_m ad ca) ads "ModuleHouseModel" prog_14_method_56_code 7 none p e s m args meth c) (hne : c.exceptionTable.isEmpty = true) {u' : xk_St} {r : Unit} {b1 : Int64} {u : xk_St} {H : Heap} {locs : List Loc} {ls : Array Slot} (h : jb_Model_bodyRow_36 fu  b1 u = some (r, u')) (hP : va_P D kx_cl (kw_m ad ca u) H) (hS : va_S (xk_A ads s.heap.size) s.heap H locs) (hl : lv_has ls 7 [(0, .ref (ad 0)), (1, .long b1)]) : W p l e rm_Model_bodyRow s m args below meth c H locs 0 0 (xk_MQ below (xk_Qc D kx_cl (kw_m ad ca) ads (xo_v (.inl r)) u') args s (xk_A ads s.heap.size)) (F0 m 36 ls []) := by
  have hx := C.1.1
  have hb := C.1.2.1
  have hok := C.2.2.1
  unfold jb_Model_bodyRow_36 at h
  refine lv_aload_n hx hb dd_Model_bodyRow_36 rfl (lv_at hl 0 rfl) ?_
  refine lv_lload_n hx hb dd_Model_bodyRow_37 rfl (lv_at hl 1 rfl) ?_
  refine lv_aload_n hx hb dd_Model_bodyRow_38 rfl (lv_at hl 0 rfl) ?_
  refine gf_m_Model_0_functions C hP dd_Model_bodyRow_39 ?_
  refine lv_i2l hx hb dd_Model_bodyRow_42 rfl ?_
  refine xr_lc_eq (tgt := 51) hx hb dd_Model_bodyRow_43 dd_Model_bodyRow_44 (by decide) (fun hc => ?_) (fun hc => ?_)
  · have h := xp_t hc h
    refine lv_iconst (v := 0) hx hb dd_Model_bodyRow_51 (by decide) ?_
    exact wj_Model_bodyRow_52 htr C hne h hP hS (lv_sub hl [0] rfl)
  · have h := xp_f hc h
    refine lv_iconst (v := 1) hx hb dd_Model_bodyRow_47 (by decide) ?_
    refine lv_goto (tgt := 52) hx hb dd_Model_bodyRow_48 (by decide) ?_
    exact wj_Model_bodyRow_52 htr C hne h hP hS (lv_sub hl [0] rfl)
set_option maxHeartbeats 4000000 in
set_option maxRecDepth 100000 in
theorem ct_Model_bodyRow {l : Launch} {D : va_G} {ad : Nat → Nat} {ca : Nat → ClassId} {ads : List Nat} (htr : l.stackTraces = false) (hok : xk_ok (kw_m ad ca) ads) {fu : Nat} {u u' : xk_St} {r : Unit} (h : fm_Model_bodyRow fu u = some (r, u')) :
    ∀ sz, xk_Met l ⟨"ModuleHouseModel", "bodyRow", "()V"⟩ (Cond.code ⟨"ModuleHouseModel", "bodyRow", "()V"⟩ prog_14_method_56_code 7 none :: xk_gd) rm_Model_bodyRow (xk_Pc D kx_cl (kx_ty ca) (kw_m ad ca) ads xk_F sz [.ref (ad 0)] u) (xk_Qc D kx_cl (kw_m ad ca) ads (xo_v (.inl r)) u') (xk_A ads sz) := by
  unfold fm_Model_bodyRow at h
  refine xk_con (by decide) htr hok (Nat.le_of_ble_eq_true rfl) (fun p e s m below meth c ls C hne hl hP => ?_)
  have hx := C.1.1
  have hb := C.1.2.1
  have hS : va_S (xk_A ads s.heap.size) s.heap s.heap [] := va_S.rf
  have hl : lv_has ls 7 [(0, .ref (ad 0))] := hl
  refine lv_lconst (v := 0) hx hb dd_Model_bodyRow_0 (by decide) ?_
  refine lv_lstore_n (lv' := [(1, .long (0 : Int64)), (0, .ref (ad 0))]) hx hb dd_Model_bodyRow_1 rfl hl (by decide) rfl (fun ls hl => ?_)
  refine lv_aload_n hx hb dd_Model_bodyRow_2 rfl (lv_at hl 1 rfl) ?_
  refine gf_m_Model_0_sections C hP dd_Model_bodyRow_3 ?_
  refine lv_bipush (v := 10) hx hb dd_Model_bodyRow_6 (by decide) ?_
  obtain ⟨hi, h⟩ := xp_g h
  refine al_m_4 C hP hi dd_Model_bodyRow_8 ?_
  refine lv_if_lt (tgt := 36) hx hb dd_Model_bodyRow_9 (by decide) (fun hc => ?_) (fun hc => ?_)
  · have h := xp_t hc h
    exact wj_Model_bodyRow_36 htr C hne h hP hS (lv_sub hl [1, 0] rfl)
  · have h := xp_f hc h
    refine lv_aload_n hx hb dd_Model_bodyRow_12 rfl (lv_at hl 1 rfl) ?_
    refine lv_aload_n hx hb dd_Model_bodyRow_13 rfl (lv_at hl 1 rfl) ?_
    refine gf_m_Model_0_sections C hP dd_Model_bodyRow_14 ?_
    refine lv_bipush (v := 10) hx hb dd_Model_bodyRow_17 (by decide) ?_
    obtain ⟨hi, h⟩ := xp_g h
    refine al_m_4 C hP hi dd_Model_bodyRow_19 ?_
    refine pf_m_Model_0_at C hP hS dd_Model_bodyRow_20 (fun H locs hP hS => ?_)
    obtain ⟨u11, eu11, h⟩ := xp_let h
    rw [← eu11] at hP
    refine lv_aload_n hx hb dd_Model_bodyRow_23 rfl (lv_at hl 1 rfl) ?_
    refine lv_aload_n hx hb dd_Model_bodyRow_24 rfl (lv_at hl 1 rfl) ?_
    refine gf_m_Model_0_codeMany C hP dd_Model_bodyRow_25 ?_
    refine pf_m_Model_0_limit C hP hS dd_Model_bodyRow_28 (fun H locs hP hS => ?_)
    obtain ⟨u12, eu12, h⟩ := xp_let h
    rw [← eu12] at hP
    refine lv_aload_n hx hb dd_Model_bodyRow_31 rfl (lv_at hl 1 rfl) ?_
    obtain ⟨a13, u14, hq, h⟩ := xp_seq h
    refine xk_goesL (xr_V (As := []) (rest := []) C hP hS (ct_Model_number htr hok hq) kq_Model_295 0 11 rfl rfl ⟨rfl, rfl, Nat.le_of_ble_eq_true rfl, Nat.le_of_ble_eq_true rfl⟩ ⟨Nat.le_of_ble_eq_true rfl, Nat.le_of_ble_eq_true rfl⟩ hl.1 rfl rfl (Nat.le_of_ble_eq_true rfl) dd_Model_bodyRow_32) hS (fun H locs hP hS => ?_)
    clear hq
    refine lv_lstore_n (lv' := [(1, .long a13), (0, .ref (ad 0))]) hx hb dd_Model_bodyRow_35 rfl hl (by decide) rfl (fun ls hl => ?_)
    exact wj_Model_bodyRow_36 htr C hne h hP hS (lv_sub hl [1, 0] rfl)
abbrev rm_Model_elementRow : Room := { frames := 5, cells := 1, slots := 6, locals := 88 }
noncomputable def jb_Model_elementRow_89 (fu : Nat) (k36 : Int32 → Int32 → xk_St → Option (Unit × xk_St)) (k57 : Int32 → Int32 → Int64 → xk_St → Option (Unit × xk_St)) (b1 : Int32) (b2 : Int32) (b3 : Int64) (s0 : Int32) (u : xk_St) : Option (Unit × xk_St) :=
  (if s0 = 0 ∨ s0 = 1 then ( xs_let (xs_I u 7 s0) fun u10 => xs_let (b3 - (1 : Int64)) fun a11 => k57 b1 b2 a11 u10  ) else none)
noncomputable def jb_Model_elementRow_84 (fu : Nat) (k36 : Int32 → Int32 → xk_St → Option (Unit × xk_St)) (k57 : Int32 → Int32 → Int64 → xk_St → Option (Unit × xk_St)) (b1 : Int32) (b2 : Int32) (b3 : Int64) (u : xk_St) : Option (Unit × xk_St) :=
  jb_Model_elementRow_89 fu k36 k57 b1 b2 b3 (1 : Int32) u
noncomputable def jb_Model_elementRow_57 (fu : Nat) (k36 : Int32 → Int32 → xk_St → Option (Unit × xk_St)) : Nat → Int32 → Int32 → Int64 → xk_St → Option (Unit × xk_St)
  | 0 => fun _ _ _ _ => none
  | n + 1 => fun b1 b2 b3 u =>
    xs_let (jb_Model_elementRow_57 fu k36 n) fun k57 =>
    if b3 ≤ (0 : Int64) then ((xs_let (b2 + (1 : Int32)) fun a7 => k36 b1 a7 u)) else ((xs_seq (fm_Model_number fu u) fun a8 u9 => if ((u9.1 13).toInt64) ≤ a8 then (jb_Model_elementRow_84 fu k36 k57 b1 b2 b3 u9) else (if (u9.1 7) = (0 : Int32) then (jb_Model_elementRow_89 fu k36 k57 b1 b2 b3 (0 : Int32) u9) else (jb_Model_elementRow_84 fu k36 k57 b1 b2 b3 u9))))
noncomputable def jb_Model_elementRow_36 (fu : Nat) : Nat → Int32 → Int32 → xk_St → Option (Unit × xk_St)
  | 0 => fun _ _ _ => none
  | n + 1 => fun b1 b2 u =>
    xs_let (jb_Model_elementRow_36 fu  n) fun k36 =>
    if b1 ≤ b2 then (some ((()), u)) else (if (u.1 7) = (0 : Int32) then ((xs_seq (fm_Model_place fu u) fun _ u4 => xs_seq (fm_Model_number fu u4) fun a5 u6 => jb_Model_elementRow_57 fu k36 fu b1 b2 a5 u6)) else (some ((()), u)))
noncomputable def jb_Model_elementRow_31 (fu : Nat) (b1 : Int32) (s0 : Int32) (u : xk_St) : Option (Unit × xk_St) :=
  (if s0 = 0 ∨ s0 = 1 then ( xs_let (xs_I u 7 s0) fun u3 => jb_Model_elementRow_36 fu fu b1 (0 : Int32) u3  ) else none)
noncomputable def jb_Model_elementRow_26 (fu : Nat) (b1 : Int32) (u : xk_St) : Option (Unit × xk_St) :=
  jb_Model_elementRow_31 fu b1 (1 : Int32) u
noncomputable def jb_Model_elementRow_30 (fu : Nat) (b1 : Int32) (u : xk_St) : Option (Unit × xk_St) :=
  jb_Model_elementRow_31 fu b1 (0 : Int32) u
noncomputable def fm_Model_elementRow (fu : Nat) (u : xk_St) : Option (Unit × xk_St) :=
  (xs_seq (fm_Model_rowOf fu (9 : Int32) u) fun a1 u2 => if (u2.1 7) = (0 : Int32) then (if a1 ≤ (0 : Int32) then (jb_Model_elementRow_30 fu a1 u2) else (if (u2.1 14) = (0 : Int32) then (jb_Model_elementRow_26 fu a1 u2) else (jb_Model_elementRow_30 fu a1 u2))) else (jb_Model_elementRow_26 fu a1 u2))
set_option maxHeartbeats 4000000 in
set_option maxRecDepth 100000 in
theorem wj_Model_elementRow_89 {p : Program} {l : Launch} {e : Env} {s : State} {m : MethodId} {args : Array Value} {below : List Frame} {meth : Method} {c : Code} {D : va_G} {ad : Nat → Nat} {ca : Nat → ClassId} {ads : List Nat} {fu : Nat} (htr : l.stackTraces = false) (C : xk_C D kx_cl (kx_ty ca) (kw_m ad ca) ads "ModuleHouseModel" prog_14_method_54_code 5 none p e s m args meth c) (hne : c.exceptionTable.isEmpty = true) {u' : xk_St} {r : Unit} {k36 : Int32 → Int32 → xk_St → Option (Unit × xk_St)} {k57 : Int32 → Int32 → Int64 → xk_St → Option (Unit × xk_St)} (hk36 : ∀ (c0 : Int32) (c1 : Int32) (u : xk_St) (H : Heap) (locs : List Loc) (ls : Array Slot), k36 c0 c1 u = some (r, u') → va_P D kx_cl (kw_m ad ca u) H → va_S (xk_A ads s.heap.size) s.heap H locs → lv_has ls 5 [(0, .ref (ad 0)), (1, .int c0), (2, .int c1)] → W p l e rm_Model_elementRow s m args below meth c H locs 0 0 (xk_MQ below (xk_Qc D kx_cl (kw_m ad ca) ads (xo_v (.inl r)) u') args s (xk_A ads s.heap.size)) (F0 m 36 ls [])) (hk57 : ∀ (c0 : Int32) (c1 : Int32) (c2 : Int64) (u : xk_St) (H : Heap) (locs : List Loc) (ls : Array Slot), k57 c0 c1 c2 u = some (r, u') → va_P D kx_cl (kw_m ad ca u) H → va_S (xk_A ads s.heap.size) s.heap H locs → lv_has ls 5 [(0, .ref (ad 0)), (1, .int c0), (2, .int c1), (3, .long c2)] → W p l e rm_Model_elementRow s m args below meth c H locs 0 0 (xk_MQ below (xk_Qc D kx_cl (kw_m ad ca) ads (xo_v (.inl r)) u') args s (xk_A ads s.heap.size)) (F0 m 57 ls [])) {b1 : Int32} {b2 : Int32} {b3 : Int64} {s0 : Int32} {u : xk_St} {H : Heap} {locs : List Loc} {ls : Array Slot} (h : jb_Model_elementRow_89 fu k36 k57 b1 b2 b3 s0 u = some (r, u')) (hP : va_P D kx_cl (kw_m ad ca u) H) (hS : va_S (xk_A ads s.heap.size) s.heap H locs) (hl : lv_has ls 5 [(0, .ref (ad 0)), (1, .int b1), (2, .int b2), (3, .long b3)]) : W p l e rm_Model_elementRow s m args below meth c H locs 0 0 (xk_MQ below (xk_Qc D kx_cl (kw_m ad ca) ads (xo_v (.inl r)) u') args s (xk_A ads s.heap.size)) (F0 m 89 ls [.int s0, .ref (ad 0)]) := by
  have hx := C.1.1
  have hb := C.1.2.1
  have hok := C.2.2.1
  unfold jb_Model_elementRow_89 at h
  obtain ⟨hz, h⟩ := xp_p h
  refine pf_m_Model_0_wrong C hP hS hz dd_Model_elementRow_89 (fun H locs hP hS => ?_)
  obtain ⟨u10, eu10, h⟩ := xp_let h
  rw [← eu10] at hP
  refine lv_lload_n hx hb dd_Model_elementRow_92 rfl (lv_at hl 3 rfl) ?_
  refine lv_lconst (v := 1) hx hb dd_Model_elementRow_93 (by decide) ?_
  refine lv_lsub hx hb dd_Model_elementRow_94 ?_
  obtain ⟨a11, ea11, h⟩ := xp_let h
  refine xr_naml ea11 ?_
  refine lv_lstore_n (lv' := [(3, .long a11), (0, .ref (ad 0)), (1, .int b1), (2, .int b2)]) hx hb dd_Model_elementRow_95 rfl hl (by decide) rfl (fun ls hl => ?_)
  refine lv_goto (tgt := 57) hx hb dd_Model_elementRow_96 (by decide) ?_
  exact hk57 b1 b2 a11 u10 _ _ _ h hP hS (lv_sub hl [1, 2, 3, 0] rfl)
set_option maxHeartbeats 4000000 in
set_option maxRecDepth 100000 in
theorem wj_Model_elementRow_84 {p : Program} {l : Launch} {e : Env} {s : State} {m : MethodId} {args : Array Value} {below : List Frame} {meth : Method} {c : Code} {D : va_G} {ad : Nat → Nat} {ca : Nat → ClassId} {ads : List Nat} {fu : Nat} (htr : l.stackTraces = false) (C : xk_C D kx_cl (kx_ty ca) (kw_m ad ca) ads "ModuleHouseModel" prog_14_method_54_code 5 none p e s m args meth c) (hne : c.exceptionTable.isEmpty = true) {u' : xk_St} {r : Unit} {k36 : Int32 → Int32 → xk_St → Option (Unit × xk_St)} {k57 : Int32 → Int32 → Int64 → xk_St → Option (Unit × xk_St)} (hk36 : ∀ (c0 : Int32) (c1 : Int32) (u : xk_St) (H : Heap) (locs : List Loc) (ls : Array Slot), k36 c0 c1 u = some (r, u') → va_P D kx_cl (kw_m ad ca u) H → va_S (xk_A ads s.heap.size) s.heap H locs → lv_has ls 5 [(0, .ref (ad 0)), (1, .int c0), (2, .int c1)] → W p l e rm_Model_elementRow s m args below meth c H locs 0 0 (xk_MQ below (xk_Qc D kx_cl (kw_m ad ca) ads (xo_v (.inl r)) u') args s (xk_A ads s.heap.size)) (F0 m 36 ls [])) (hk57 : ∀ (c0 : Int32) (c1 : Int32) (c2 : Int64) (u : xk_St) (H : Heap) (locs : List Loc) (ls : Array Slot), k57 c0 c1 c2 u = some (r, u') → va_P D kx_cl (kw_m ad ca u) H → va_S (xk_A ads s.heap.size) s.heap H locs → lv_has ls 5 [(0, .ref (ad 0)), (1, .int c0), (2, .int c1), (3, .long c2)] → W p l e rm_Model_elementRow s m args below meth c H locs 0 0 (xk_MQ below (xk_Qc D kx_cl (kw_m ad ca) ads (xo_v (.inl r)) u') args s (xk_A ads s.heap.size)) (F0 m 57 ls [])) {b1 : Int32} {b2 : Int32} {b3 : Int64} {u : xk_St} {H : Heap} {locs : List Loc} {ls : Array Slot} (h : jb_Model_elementRow_84 fu k36 k57 b1 b2 b3 u = some (r, u')) (hP : va_P D kx_cl (kw_m ad ca u) H) (hS : va_S (xk_A ads s.heap.size) s.heap H locs) (hl : lv_has ls 5 [(0, .ref (ad 0)), (1, .int b1), (2, .int b2), (3, .long b3)]) : W p l e rm_Model_elementRow s m args below meth c H locs 0 0 (xk_MQ below (xk_Qc D kx_cl (kw_m ad ca) ads (xo_v (.inl r)) u') args s (xk_A ads s.heap.size)) (F0 m 84 ls [.ref (ad 0)]) := by
  have hx := C.1.1
  have hb := C.1.2.1
  have hok := C.2.2.1
  unfold jb_Model_elementRow_84 at h
  refine lv_iconst (v := 1) hx hb dd_Model_elementRow_84 (by decide) ?_
  refine lv_goto (tgt := 89) hx hb dd_Model_elementRow_85 (by decide) ?_
  exact wj_Model_elementRow_89 htr C hne hk36 hk57 h hP hS (lv_sub hl [0, 1, 2, 3] rfl)
set_option maxHeartbeats 4000000 in
set_option maxRecDepth 100000 in
theorem wj_Model_elementRow_57 {p : Program} {l : Launch} {e : Env} {s : State} {m : MethodId} {args : Array Value} {below : List Frame} {meth : Method} {c : Code} {D : va_G} {ad : Nat → Nat} {ca : Nat → ClassId} {ads : List Nat} {fu : Nat} (htr : l.stackTraces = false) (C : xk_C D kx_cl (kx_ty ca) (kw_m ad ca) ads "ModuleHouseModel" prog_14_method_54_code 5 none p e s m args meth c) (hne : c.exceptionTable.isEmpty = true) {u' : xk_St} {r : Unit} {k36 : Int32 → Int32 → xk_St → Option (Unit × xk_St)} (hk36 : ∀ (c0 : Int32) (c1 : Int32) (u : xk_St) (H : Heap) (locs : List Loc) (ls : Array Slot), k36 c0 c1 u = some (r, u') → va_P D kx_cl (kw_m ad ca u) H → va_S (xk_A ads s.heap.size) s.heap H locs → lv_has ls 5 [(0, .ref (ad 0)), (1, .int c0), (2, .int c1)] → W p l e rm_Model_elementRow s m args below meth c H locs 0 0 (xk_MQ below (xk_Qc D kx_cl (kw_m ad ca) ads (xo_v (.inl r)) u') args s (xk_A ads s.heap.size)) (F0 m 36 ls [])) : ∀ {n : Nat} {b1 : Int32} {b2 : Int32} {b3 : Int64} {u : xk_St} {H : Heap} {locs : List Loc} {ls : Array Slot} (h : jb_Model_elementRow_57 fu k36 n b1 b2 b3 u = some (r, u')) (hP : va_P D kx_cl (kw_m ad ca u) H) (hS : va_S (xk_A ads s.heap.size) s.heap H locs) (hl : lv_has ls 5 [(0, .ref (ad 0)), (1, .int b1), (2, .int b2), (3, .long b3)]), W p l e rm_Model_elementRow s m args below meth c H locs 0 0 (xk_MQ below (xk_Qc D kx_cl (kw_m ad ca) ads (xo_v (.inl r)) u') args s (xk_A ads s.heap.size)) (F0 m 57 ls []) := by
  intro n
  have hx := C.1.1
  have hb := C.1.2.1
  have hok := C.2.2.1
  induction n with
  | zero =>
    intro _ _ _ u H locs ls h
    have h : none = some (r, u') := h
    cases h
  | succ n ih =>
    intro b1 b2 b3 u H locs ls h hP hS hl
    unfold jb_Model_elementRow_57 at h
    obtain ⟨k57, ek57, h⟩ := xp_let h
    have hk57 : ∀ (c0 : Int32) (c1 : Int32) (c2 : Int64) (u : xk_St) (H : Heap) (locs : List Loc) (ls : Array Slot), k57 c0 c1 c2 u = some (r, u') → va_P D kx_cl (kw_m ad ca u) H → va_S (xk_A ads s.heap.size) s.heap H locs → lv_has ls 5 [(0, .ref (ad 0)), (1, .int c0), (2, .int c1), (3, .long c2)] → W p l e rm_Model_elementRow s m args below meth c H locs 0 0 (xk_MQ below (xk_Qc D kx_cl (kw_m ad ca) ads (xo_v (.inl r)) u') args s (xk_A ads s.heap.size)) (F0 m 57 ls []) := by
      intro c0 c1 c2 u H locs ls h hP hS hl
      subst ek57
      exact ih h hP hS hl
    clear ih ek57
    refine lv_lload_n hx hb dd_Model_elementRow_57 rfl (lv_at hl 3 rfl) ?_
    refine lv_lconst (v := 0) hx hb dd_Model_elementRow_58 (by decide) ?_
    refine xr_lc_le (tgt := 99) hx hb dd_Model_elementRow_59 dd_Model_elementRow_60 (by decide) (fun hc => ?_) (fun hc => ?_)
    · have h := xp_t hc h
      obtain ⟨a7, ea7, h⟩ := xp_let h
      refine lv_iinc (v := a7) (lv' := [(2, .int a7), (0, .ref (ad 0)), (1, .int b1), (3, .long b3)]) hx hb dd_Model_elementRow_99 hl (k := 2) rfl (by rw [ea7]; first | rfl | decide) (by decide) rfl (fun ls hl => ?_)
      refine lv_goto (tgt := 36) hx hb dd_Model_elementRow_102 (by decide) ?_
      exact hk36 b1 a7 u _ _ _ h hP hS (lv_sub hl [1, 2, 0] rfl)
    · have h := xp_f hc h
      refine lv_aload_n hx hb dd_Model_elementRow_63 rfl (lv_at hl 0 rfl) ?_
      refine lv_aload_n hx hb dd_Model_elementRow_64 rfl (lv_at hl 0 rfl) ?_
      obtain ⟨a8, u9, hq, h⟩ := xp_seq h
      refine xk_goesL (xr_V (As := []) (rest := [.ref (ad 0)]) C hP hS (ct_Model_number htr hok hq) kq_Model_295 0 11 rfl rfl ⟨rfl, rfl, Nat.le_of_ble_eq_true rfl, Nat.le_of_ble_eq_true rfl⟩ ⟨Nat.le_of_ble_eq_true rfl, Nat.le_of_ble_eq_true rfl⟩ hl.1 rfl rfl (Nat.le_of_ble_eq_true rfl) dd_Model_elementRow_65) hS (fun H locs hP hS => ?_)
      clear hq
      refine lv_aload_n hx hb dd_Model_elementRow_68 rfl (lv_at hl 0 rfl) ?_
      refine gf_m_Model_0_functions C hP dd_Model_elementRow_69 ?_
      refine lv_i2l hx hb dd_Model_elementRow_72 rfl ?_
      refine xr_lc_ge (tgt := 84) hx hb dd_Model_elementRow_73 dd_Model_elementRow_74 (by decide) (fun hc => ?_) (fun hc => ?_)
      · have h := xp_t hc h
        exact wj_Model_elementRow_84 htr C hne hk36 hk57 h hP hS (lv_sub hl [0, 1, 2, 3] rfl)
      · have h := xp_f hc h
        refine lv_aload_n hx hb dd_Model_elementRow_77 rfl (lv_at hl 0 rfl) ?_
        refine gf_m_Model_0_wrong C hP dd_Model_elementRow_78 ?_
        refine lv_if_eq (tgt := 88) hx hb dd_Model_elementRow_81 (by decide) (fun hc => ?_) (fun hc => ?_)
        · have h := xp_t hc h
          refine lv_iconst (v := 0) hx hb dd_Model_elementRow_88 (by decide) ?_
          exact wj_Model_elementRow_89 htr C hne hk36 hk57 h hP hS (lv_sub hl [0, 1, 2, 3] rfl)
        · have h := xp_f hc h
          exact wj_Model_elementRow_84 htr C hne hk36 hk57 h hP hS (lv_sub hl [0, 1, 2, 3] rfl)
set_option maxHeartbeats 4000000 in
set_option maxRecDepth 100000 in
theorem wj_Model_elementRow_36 {p : Program} {l : Launch} {e : Env} {s : State} {m : MethodId} {args : Array Value} {below : List Frame} {meth : Method} {c : Code} {D : va_G} {ad : Nat → Nat} {ca : Nat → ClassId} {ads : List Nat} {fu : Nat} (htr : l.stackTraces = false) (C : xk_C D kx_cl (kx_ty ca) (kw_m ad ca) ads "ModuleHouseModel" prog_14_method_54_code 5 none p e s m args meth c) (hne : c.exceptionTable.isEmpty = true) {u' : xk_St} {r : Unit} : ∀ {n : Nat} {b1 : Int32} {b2 : Int32} {u : xk_St} {H : Heap} {locs : List Loc} {ls : Array Slot} (h : jb_Model_elementRow_36 fu  n b1 b2 u = some (r, u')) (hP : va_P D kx_cl (kw_m ad ca u) H) (hS : va_S (xk_A ads s.heap.size) s.heap H locs) (hl : lv_has ls 5 [(0, .ref (ad 0)), (1, .int b1), (2, .int b2)]), W p l e rm_Model_elementRow s m args below meth c H locs 0 0 (xk_MQ below (xk_Qc D kx_cl (kw_m ad ca) ads (xo_v (.inl r)) u') args s (xk_A ads s.heap.size)) (F0 m 36 ls []) := by
  intro n
  have hx := C.1.1
  have hb := C.1.2.1
  have hok := C.2.2.1
  induction n with
  | zero =>
    intro _ _ u H locs ls h
    have h : none = some (r, u') := h
    cases h
  | succ n ih =>
    intro b1 b2 u H locs ls h hP hS hl
    unfold jb_Model_elementRow_36 at h
    obtain ⟨k36, ek36, h⟩ := xp_let h
    have hk36 : ∀ (c0 : Int32) (c1 : Int32) (u : xk_St) (H : Heap) (locs : List Loc) (ls : Array Slot), k36 c0 c1 u = some (r, u') → va_P D kx_cl (kw_m ad ca u) H → va_S (xk_A ads s.heap.size) s.heap H locs → lv_has ls 5 [(0, .ref (ad 0)), (1, .int c0), (2, .int c1)] → W p l e rm_Model_elementRow s m args below meth c H locs 0 0 (xk_MQ below (xk_Qc D kx_cl (kw_m ad ca) ads (xo_v (.inl r)) u') args s (xk_A ads s.heap.size)) (F0 m 36 ls []) := by
      intro c0 c1 u H locs ls h hP hS hl
      subst ek36
      exact ih h hP hS hl
    clear ih ek36
    refine lv_iload_n hx hb dd_Model_elementRow_36 rfl (lv_at hl 2 rfl) ?_
    refine lv_iload_n hx hb dd_Model_elementRow_37 rfl (lv_at hl 1 rfl) ?_
    refine lv_icmp_ge (tgt := 105) hx hb dd_Model_elementRow_38 (by decide) (fun hc => ?_) (fun hc => ?_)
    · have h := xp_t hc h
      obtain ⟨rfl, rfl⟩ := xp_r h
      exact xr_vret C hP hS dd_Model_elementRow_105
    · have h := xp_f hc h
      refine lv_aload_n hx hb dd_Model_elementRow_41 rfl (lv_at hl 0 rfl) ?_
      refine gf_m_Model_0_wrong C hP dd_Model_elementRow_42 ?_
      refine lv_if_ne (tgt := 105) hx hb dd_Model_elementRow_45 (by decide) (fun hc => ?_) (fun hc => ?_)
      · have h := xp_f hc h
        obtain ⟨rfl, rfl⟩ := xp_r h
        exact xr_vret C hP hS dd_Model_elementRow_105
      · have h := xp_t hc h
        refine lv_aload_n hx hb dd_Model_elementRow_48 rfl (lv_at hl 0 rfl) ?_
        obtain ⟨rx, u4, hq, h⟩ := xp_seq h
        refine xk_goesV (xr_V (As := []) (rest := []) C hP hS (ct_Model_place htr hok hq) kq_Model_366 0 11 rfl rfl ⟨rfl, rfl, Nat.le_of_ble_eq_true rfl, Nat.le_of_ble_eq_true rfl⟩ ⟨Nat.le_of_ble_eq_true rfl, Nat.le_of_ble_eq_true rfl⟩ hl.1 rfl rfl (Nat.le_of_ble_eq_true rfl) dd_Model_elementRow_49) hS (fun H locs hP hS => ?_)
        clear hq
        refine lv_aload_n hx hb dd_Model_elementRow_52 rfl (lv_at hl 0 rfl) ?_
        obtain ⟨a5, u6, hq, h⟩ := xp_seq h
        refine xk_goesL (xr_V (As := []) (rest := []) C hP hS (ct_Model_number htr hok hq) kq_Model_295 0 11 rfl rfl ⟨rfl, rfl, Nat.le_of_ble_eq_true rfl, Nat.le_of_ble_eq_true rfl⟩ ⟨Nat.le_of_ble_eq_true rfl, Nat.le_of_ble_eq_true rfl⟩ hl.1 rfl rfl (Nat.le_of_ble_eq_true rfl) dd_Model_elementRow_53) hS (fun H locs hP hS => ?_)
        clear hq
        refine lv_lstore_n (lv' := [(3, .long a5), (0, .ref (ad 0)), (1, .int b1), (2, .int b2)]) hx hb dd_Model_elementRow_56 rfl hl (by decide) rfl (fun ls hl => ?_)
        exact wj_Model_elementRow_57 htr C hne hk36 h hP hS (lv_sub hl [1, 2, 3, 0] rfl)
set_option maxHeartbeats 4000000 in
set_option maxRecDepth 100000 in
theorem wj_Model_elementRow_31 {p : Program} {l : Launch} {e : Env} {s : State} {m : MethodId} {args : Array Value} {below : List Frame} {meth : Method} {c : Code} {D : va_G} {ad : Nat → Nat} {ca : Nat → ClassId} {ads : List Nat} {fu : Nat} (htr : l.stackTraces = false) (C : xk_C D kx_cl (kx_ty ca) (kw_m ad ca) ads "ModuleHouseModel" prog_14_method_54_code 5 none p e s m args meth c) (hne : c.exceptionTable.isEmpty = true) {u' : xk_St} {r : Unit} {b1 : Int32} {s0 : Int32} {u : xk_St} {H : Heap} {locs : List Loc} {ls : Array Slot} (h : jb_Model_elementRow_31 fu  b1 s0 u = some (r, u')) (hP : va_P D kx_cl (kw_m ad ca u) H) (hS : va_S (xk_A ads s.heap.size) s.heap H locs) (hl : lv_has ls 5 [(0, .ref (ad 0)), (1, .int b1)]) : W p l e rm_Model_elementRow s m args below meth c H locs 0 0 (xk_MQ below (xk_Qc D kx_cl (kw_m ad ca) ads (xo_v (.inl r)) u') args s (xk_A ads s.heap.size)) (F0 m 31 ls [.int s0, .ref (ad 0)]) := by
  have hx := C.1.1
  have hb := C.1.2.1
  have hok := C.2.2.1
  unfold jb_Model_elementRow_31 at h
  obtain ⟨hz, h⟩ := xp_p h
  refine pf_m_Model_0_wrong C hP hS hz dd_Model_elementRow_31 (fun H locs hP hS => ?_)
  obtain ⟨u3, eu3, h⟩ := xp_let h
  rw [← eu3] at hP
  refine lv_iconst (v := 0) hx hb dd_Model_elementRow_34 (by decide) ?_
  refine lv_istore_n (lv' := [(2, .int (0 : Int32)), (0, .ref (ad 0)), (1, .int b1)]) hx hb dd_Model_elementRow_35 rfl hl (by decide) rfl (fun ls hl => ?_)
  exact wj_Model_elementRow_36 htr C hne h hP hS (lv_sub hl [1, 2, 0] rfl)
set_option maxHeartbeats 4000000 in
set_option maxRecDepth 100000 in
theorem wj_Model_elementRow_26 {p : Program} {l : Launch} {e : Env} {s : State} {m : MethodId} {args : Array Value} {below : List Frame} {meth : Method} {c : Code} {D : va_G} {ad : Nat → Nat} {ca : Nat → ClassId} {ads : List Nat} {fu : Nat} (htr : l.stackTraces = false) (C : xk_C D kx_cl (kx_ty ca) (kw_m ad ca) ads "ModuleHouseModel" prog_14_method_54_code 5 none p e s m args meth c) (hne : c.exceptionTable.isEmpty = true) {u' : xk_St} {r : Unit} {b1 : Int32} {u : xk_St} {H : Heap} {locs : List Loc} {ls : Array Slot} (h : jb_Model_elementRow_26 fu  b1 u = some (r, u')) (hP : va_P D kx_cl (kw_m ad ca u) H) (hS : va_S (xk_A ads s.heap.size) s.heap H locs) (hl : lv_has ls 5 [(0, .ref (ad 0)), (1, .int b1)]) : W p l e rm_Model_elementRow s m args below meth c H locs 0 0 (xk_MQ below (xk_Qc D kx_cl (kw_m ad ca) ads (xo_v (.inl r)) u') args s (xk_A ads s.heap.size)) (F0 m 26 ls [.ref (ad 0)]) := by
  have hx := C.1.1
  have hb := C.1.2.1
  have hok := C.2.2.1
  unfold jb_Model_elementRow_26 at h
  refine lv_iconst (v := 1) hx hb dd_Model_elementRow_26 (by decide) ?_
  refine lv_goto (tgt := 31) hx hb dd_Model_elementRow_27 (by decide) ?_
  exact wj_Model_elementRow_31 htr C hne h hP hS (lv_sub hl [0, 1] rfl)
set_option maxHeartbeats 4000000 in
set_option maxRecDepth 100000 in
theorem wj_Model_elementRow_30 {p : Program} {l : Launch} {e : Env} {s : State} {m : MethodId} {args : Array Value} {below : List Frame} {meth : Method} {c : Code} {D : va_G} {ad : Nat → Nat} {ca : Nat → ClassId} {ads : List Nat} {fu : Nat} (htr : l.stackTraces = false) (C : xk_C D kx_cl (kx_ty ca) (kw_m ad ca) ads "ModuleHouseModel" prog_14_method_54_code 5 none p e s m args meth c) (hne : c.exceptionTable.isEmpty = true) {u' : xk_St} {r : Unit} {b1 : Int32} {u : xk_St} {H : Heap} {locs : List Loc} {ls : Array Slot} (h : jb_Model_elementRow_30 fu  b1 u = some (r, u')) (hP : va_P D kx_cl (kw_m ad ca u) H) (hS : va_S (xk_A ads s.heap.size) s.heap H locs) (hl : lv_has ls 5 [(0, .ref (ad 0)), (1, .int b1)]) : W p l e rm_Model_elementRow s m args below meth c H locs 0 0 (xk_MQ below (xk_Qc D kx_cl (kw_m ad ca) ads (xo_v (.inl r)) u') args s (xk_A ads s.heap.size)) (F0 m 30 ls [.ref (ad 0)]) := by
  have hx := C.1.1
  have hb := C.1.2.1
  have hok := C.2.2.1
  unfold jb_Model_elementRow_30 at h
  refine lv_iconst (v := 0) hx hb dd_Model_elementRow_30 (by decide) ?_
  exact wj_Model_elementRow_31 htr C hne h hP hS (lv_sub hl [0, 1] rfl)
set_option maxHeartbeats 4000000 in
set_option maxRecDepth 100000 in
theorem ct_Model_elementRow {l : Launch} {D : va_G} {ad : Nat → Nat} {ca : Nat → ClassId} {ads : List Nat} (htr : l.stackTraces = false) (hok : xk_ok (kw_m ad ca) ads) {fu : Nat} {u u' : xk_St} {r : Unit} (h : fm_Model_elementRow fu u = some (r, u')) :
    ∀ sz, xk_Met l ⟨"ModuleHouseModel", "elementRow", "()V"⟩ (Cond.code ⟨"ModuleHouseModel", "elementRow", "()V"⟩ prog_14_method_54_code 5 none :: xk_gd) rm_Model_elementRow (xk_Pc D kx_cl (kx_ty ca) (kw_m ad ca) ads xk_F sz [.ref (ad 0)] u) (xk_Qc D kx_cl (kw_m ad ca) ads (xo_v (.inl r)) u') (xk_A ads sz) := by
  unfold fm_Model_elementRow at h
  refine xk_con (by decide) htr hok (Nat.le_of_ble_eq_true rfl) (fun p e s m below meth c ls C hne hl hP => ?_)
  have hx := C.1.1
  have hb := C.1.2.1
  have hS : va_S (xk_A ads s.heap.size) s.heap s.heap [] := va_S.rf
  have hl : lv_has ls 5 [(0, .ref (ad 0))] := hl
  refine lv_aload_n hx hb dd_Model_elementRow_0 rfl (lv_at hl 0 rfl) ?_
  refine lv_bipush (v := 9) hx hb dd_Model_elementRow_1 (by decide) ?_
  obtain ⟨a1, u2, hq, h⟩ := xp_seq h
  refine xk_goesI (xr_V (As := [.int (9 : Int32)]) (rest := []) C hP hS (ct_Model_rowOf htr hok hq) kq_Model_417 0 11 rfl rfl ⟨rfl, rfl, Nat.le_of_ble_eq_true rfl, Nat.le_of_ble_eq_true rfl⟩ ⟨Nat.le_of_ble_eq_true rfl, Nat.le_of_ble_eq_true rfl⟩ hl.1 rfl rfl (Nat.le_of_ble_eq_true rfl) dd_Model_elementRow_3) hS (fun H locs hP hS => ?_)
  clear hq
  refine lv_istore_n (lv' := [(1, .int a1), (0, .ref (ad 0))]) hx hb dd_Model_elementRow_6 rfl hl (by decide) rfl (fun ls hl => ?_)
  refine lv_aload_n hx hb dd_Model_elementRow_7 rfl (lv_at hl 1 rfl) ?_
  refine lv_aload_n hx hb dd_Model_elementRow_8 rfl (lv_at hl 1 rfl) ?_
  refine gf_m_Model_0_wrong C hP dd_Model_elementRow_9 ?_
  refine lv_if_ne (tgt := 26) hx hb dd_Model_elementRow_12 (by decide) (fun hc => ?_) (fun hc => ?_)
  · have h := xp_f hc h
    exact wj_Model_elementRow_26 htr C hne h hP hS (lv_sub hl [1, 0] rfl)
  · have h := xp_t hc h
    refine lv_iload_n hx hb dd_Model_elementRow_15 rfl (lv_at hl 0 rfl) ?_
    refine lv_if_le (tgt := 30) hx hb dd_Model_elementRow_16 (by decide) (fun hc => ?_) (fun hc => ?_)
    · have h := xp_t hc h
      exact wj_Model_elementRow_30 htr C hne h hP hS (lv_sub hl [1, 0] rfl)
    · have h := xp_f hc h
      refine lv_aload_n hx hb dd_Model_elementRow_19 rfl (lv_at hl 1 rfl) ?_
      refine gf_m_Model_0_hasTable C hP dd_Model_elementRow_20 ?_
      refine lv_if_ne (tgt := 30) hx hb dd_Model_elementRow_23 (by decide) (fun hc => ?_) (fun hc => ?_)
      · have h := xp_f hc h
        exact wj_Model_elementRow_30 htr C hne h hP hS (lv_sub hl [1, 0] rfl)
      · have h := xp_t hc h
        exact wj_Model_elementRow_26 htr C hne h hP hS (lv_sub hl [1, 0] rfl)
abbrev rm_Model_firstFunction : Room := { frames := 4, cells := 1, slots := 6, locals := 65 }
noncomputable def jb_Model_firstFunction_102 (fu : Nat) (u : xk_St) : Option (Unit × xk_St) :=
  (xs_let (xs_I u 7 (1 : Int32)) fun u9 => some ((()), u9))
noncomputable def jb_Model_firstFunction_56 (fu : Nat) (b1 : Int64) (s0 : Int32) (u : xk_St) : Option (Unit × xk_St) :=
  (if s0 = 0 ∨ s0 = 1 then ( xs_let (xs_I u 7 s0) fun u6 => if (u6.1 7) = (0 : Int32) then ((xs_let (xs_I u6 20 (b1.toInt32)) fun u7 => if (u7.1 20) < 0 ∨ 64 ≤ (u7.1 20).toNatClampNeg then none else xs_let (u7.2.2.1 9 (u7.1 20).toNatClampNeg) fun a8 => if a8 < 0 ∨ 64 ≤ a8.toNatClampNeg then none else if (0 : Int32) < (u7.2.2.1 5 a8.toNatClampNeg) then (jb_Model_firstFunction_102 fu u7) else ((if a8 < 0 ∨ 64 ≤ a8.toNatClampNeg then none else if (u7.2.2.1 6 a8.toNatClampNeg) ≤ (0 : Int32) then ((xs_let (xs_I u7 7 (0 : Int32)) fun u10 => some ((()), u10))) else (jb_Model_firstFunction_102 fu u7))))) else (some ((()), u6))  ) else none)
noncomputable def fm_Model_firstFunction (fu : Nat) (u : xk_St) : Option (Unit × xk_St) :=
  (xs_let (xs_I u 20 (-1 : Int32)) fun u1 => if (8 : Int32) < 0 ∨ 12 ≤ (8 : Int32).toNatClampNeg then none else if (0 : Int32) ≤ (u1.2.2.1 2 (8 : Int32).toNatClampNeg) then ((if (8 : Int32) < 0 ∨ 12 ≤ (8 : Int32).toNatClampNeg then none else xs_let (xs_I u1 4 (u1.2.2.1 2 (8 : Int32).toNatClampNeg)) fun u2 => xs_let (xs_I u2 5 (u2.1 3)) fun u3 => xs_seq (fm_Model_number fu u3) fun a4 u5 => if a4 < ((u5.1 13).toInt64) then (jb_Model_firstFunction_56 fu a4 (0 : Int32) u5) else (jb_Model_firstFunction_56 fu a4 (1 : Int32) u5))) else (some ((()), u1)))
set_option maxHeartbeats 4000000 in
set_option maxRecDepth 100000 in
theorem wj_Model_firstFunction_102 {p : Program} {l : Launch} {e : Env} {s : State} {m : MethodId} {args : Array Value} {below : List Frame} {meth : Method} {c : Code} {D : va_G} {ad : Nat → Nat} {ca : Nat → ClassId} {ads : List Nat} {fu : Nat} (htr : l.stackTraces = false) (C : xk_C D kx_cl (kx_ty ca) (kw_m ad ca) ads "ModuleHouseModel" prog_14_method_53_code 4 none p e s m args meth c) (hne : c.exceptionTable.isEmpty = true) {u' : xk_St} {r : Unit} {u : xk_St} {H : Heap} {locs : List Loc} {ls : Array Slot} (h : jb_Model_firstFunction_102 fu   u = some (r, u')) (hP : va_P D kx_cl (kw_m ad ca u) H) (hS : va_S (xk_A ads s.heap.size) s.heap H locs) (hl : lv_has ls 4 []) : W p l e rm_Model_firstFunction s m args below meth c H locs 0 0 (xk_MQ below (xk_Qc D kx_cl (kw_m ad ca) ads (xo_v (.inl r)) u') args s (xk_A ads s.heap.size)) (F0 m 102 ls [.ref (ad 0)]) := by
  have hx := C.1.1
  have hb := C.1.2.1
  have hok := C.2.2.1
  unfold jb_Model_firstFunction_102 at h
  refine lv_iconst (v := 1) hx hb dd_Model_firstFunction_102 (by decide) ?_
  refine lv_goto (tgt := 107) hx hb dd_Model_firstFunction_103 (by decide) ?_
  refine pf_m_Model_0_wrong C hP hS (by decide) dd_Model_firstFunction_107 (fun H locs hP hS => ?_)
  obtain ⟨u9, eu9, h⟩ := xp_let h
  rw [← eu9] at hP
  obtain ⟨rfl, rfl⟩ := xp_r h
  exact xr_vret C hP hS dd_Model_firstFunction_110
set_option maxHeartbeats 4000000 in
set_option maxRecDepth 100000 in
theorem wj_Model_firstFunction_56 {p : Program} {l : Launch} {e : Env} {s : State} {m : MethodId} {args : Array Value} {below : List Frame} {meth : Method} {c : Code} {D : va_G} {ad : Nat → Nat} {ca : Nat → ClassId} {ads : List Nat} {fu : Nat} (htr : l.stackTraces = false) (C : xk_C D kx_cl (kx_ty ca) (kw_m ad ca) ads "ModuleHouseModel" prog_14_method_53_code 4 none p e s m args meth c) (hne : c.exceptionTable.isEmpty = true) {u' : xk_St} {r : Unit} {b1 : Int64} {s0 : Int32} {u : xk_St} {H : Heap} {locs : List Loc} {ls : Array Slot} (h : jb_Model_firstFunction_56 fu  b1 s0 u = some (r, u')) (hP : va_P D kx_cl (kw_m ad ca u) H) (hS : va_S (xk_A ads s.heap.size) s.heap H locs) (hl : lv_has ls 4 [(0, .ref (ad 0)), (1, .long b1)]) : W p l e rm_Model_firstFunction s m args below meth c H locs 0 0 (xk_MQ below (xk_Qc D kx_cl (kw_m ad ca) ads (xo_v (.inl r)) u') args s (xk_A ads s.heap.size)) (F0 m 56 ls [.int s0, .ref (ad 0)]) := by
  have hx := C.1.1
  have hb := C.1.2.1
  have hok := C.2.2.1
  unfold jb_Model_firstFunction_56 at h
  obtain ⟨hz, h⟩ := xp_p h
  refine pf_m_Model_0_wrong C hP hS hz dd_Model_firstFunction_56 (fun H locs hP hS => ?_)
  obtain ⟨u6, eu6, h⟩ := xp_let h
  rw [← eu6] at hP
  refine lv_aload_n hx hb dd_Model_firstFunction_59 rfl (lv_at hl 0 rfl) ?_
  refine gf_m_Model_0_wrong C hP dd_Model_firstFunction_60 ?_
  refine lv_if_eq (tgt := 67) hx hb dd_Model_firstFunction_63 (by decide) (fun hc => ?_) (fun hc => ?_)
  · have h := xp_t hc h
    refine lv_aload_n hx hb dd_Model_firstFunction_67 rfl (lv_at hl 0 rfl) ?_
    refine lv_lload_n hx hb dd_Model_firstFunction_68 rfl (lv_at hl 1 rfl) ?_
    refine lv_l2i hx hb dd_Model_firstFunction_69 rfl ?_
    refine pf_m_Model_0_first C hP hS dd_Model_firstFunction_70 (fun H locs hP hS => ?_)
    obtain ⟨u7, eu7, h⟩ := xp_let h
    rw [← eu7] at hP
    refine lv_aload_n hx hb dd_Model_firstFunction_73 rfl (lv_at hl 0 rfl) ?_
    refine gf_m_Model_0_functionType C hP dd_Model_firstFunction_74 ?_
    refine lv_aload_n hx hb dd_Model_firstFunction_77 rfl (lv_at hl 0 rfl) ?_
    refine gf_m_Model_0_first C hP dd_Model_firstFunction_78 ?_
    obtain ⟨hi, h⟩ := xp_g h
    refine al_m_11 C hP hi dd_Model_firstFunction_81 ?_
    obtain ⟨a8, ea8, h⟩ := xp_let h
    refine xr_nami ea8 ?_
    refine lv_istore_n (lv' := [(3, .int a8), (0, .ref (ad 0)), (1, .long b1)]) hx hb dd_Model_firstFunction_82 rfl hl (by decide) rfl (fun ls hl => ?_)
    refine lv_aload_n hx hb dd_Model_firstFunction_83 rfl (lv_at hl 1 rfl) ?_
    refine lv_aload_n hx hb dd_Model_firstFunction_84 rfl (lv_at hl 1 rfl) ?_
    refine gf_m_Model_0_partMany C hP dd_Model_firstFunction_85 ?_
    refine lv_iload_n hx hb dd_Model_firstFunction_88 rfl (lv_at hl 0 rfl) ?_
    obtain ⟨hi, h⟩ := xp_g h
    refine al_m_7 C hP hi dd_Model_firstFunction_89 ?_
    refine lv_if_gt (tgt := 102) hx hb dd_Model_firstFunction_90 (by decide) (fun hc => ?_) (fun hc => ?_)
    · have h := xp_t hc h
      exact wj_Model_firstFunction_102 htr C hne h hP hS (lv_sub hl [] rfl)
    · have h := xp_f hc h
      refine lv_aload_n hx hb dd_Model_firstFunction_93 rfl (lv_at hl 1 rfl) ?_
      refine gf_m_Model_0_resultTypes C hP dd_Model_firstFunction_94 ?_
      refine lv_iload_n hx hb dd_Model_firstFunction_97 rfl (lv_at hl 0 rfl) ?_
      obtain ⟨hi, h⟩ := xp_g h
      refine al_m_8 C hP hi dd_Model_firstFunction_98 ?_
      refine lv_if_le (tgt := 106) hx hb dd_Model_firstFunction_99 (by decide) (fun hc => ?_) (fun hc => ?_)
      · have h := xp_t hc h
        refine lv_iconst (v := 0) hx hb dd_Model_firstFunction_106 (by decide) ?_
        refine pf_m_Model_0_wrong C hP hS (by decide) dd_Model_firstFunction_107 (fun H locs hP hS => ?_)
        obtain ⟨u10, eu10, h⟩ := xp_let h
        rw [← eu10] at hP
        obtain ⟨rfl, rfl⟩ := xp_r h
        exact xr_vret C hP hS dd_Model_firstFunction_110
      · have h := xp_f hc h
        exact wj_Model_firstFunction_102 htr C hne h hP hS (lv_sub hl [] rfl)
  · have h := xp_f hc h
    obtain ⟨rfl, rfl⟩ := xp_r h
    exact xr_vret C hP hS dd_Model_firstFunction_66
set_option maxHeartbeats 4000000 in
set_option maxRecDepth 100000 in
theorem ct_Model_firstFunction {l : Launch} {D : va_G} {ad : Nat → Nat} {ca : Nat → ClassId} {ads : List Nat} (htr : l.stackTraces = false) (hok : xk_ok (kw_m ad ca) ads) {fu : Nat} {u u' : xk_St} {r : Unit} (h : fm_Model_firstFunction fu u = some (r, u')) :
    ∀ sz, xk_Met l ⟨"ModuleHouseModel", "firstFunction", "()V"⟩ (Cond.code ⟨"ModuleHouseModel", "firstFunction", "()V"⟩ prog_14_method_53_code 4 none :: xk_gd) rm_Model_firstFunction (xk_Pc D kx_cl (kx_ty ca) (kw_m ad ca) ads xk_F sz [.ref (ad 0)] u) (xk_Qc D kx_cl (kw_m ad ca) ads (xo_v (.inl r)) u') (xk_A ads sz) := by
  unfold fm_Model_firstFunction at h
  refine xk_con (by decide) htr hok (Nat.le_of_ble_eq_true rfl) (fun p e s m below meth c ls C hne hl hP => ?_)
  have hx := C.1.1
  have hb := C.1.2.1
  have hS : va_S (xk_A ads s.heap.size) s.heap s.heap [] := va_S.rf
  have hl : lv_has ls 4 [(0, .ref (ad 0))] := hl
  refine lv_aload_n hx hb dd_Model_firstFunction_0 rfl (lv_at hl 0 rfl) ?_
  refine lv_iconst (v := (-1)) hx hb dd_Model_firstFunction_1 (by decide) ?_
  refine pf_m_Model_0_first C hP hS dd_Model_firstFunction_2 (fun H locs hP hS => ?_)
  obtain ⟨u1, eu1, h⟩ := xp_let h
  rw [← eu1] at hP
  refine lv_aload_n hx hb dd_Model_firstFunction_5 rfl (lv_at hl 0 rfl) ?_
  refine gf_m_Model_0_sections C hP dd_Model_firstFunction_6 ?_
  refine lv_bipush (v := 8) hx hb dd_Model_firstFunction_9 (by decide) ?_
  obtain ⟨hi, h⟩ := xp_g h
  refine al_m_4 C hP hi dd_Model_firstFunction_11 ?_
  refine lv_if_ge (tgt := 16) hx hb dd_Model_firstFunction_12 (by decide) (fun hc => ?_) (fun hc => ?_)
  · have h := xp_t hc h
    refine lv_aload_n hx hb dd_Model_firstFunction_16 rfl (lv_at hl 0 rfl) ?_
    refine lv_aload_n hx hb dd_Model_firstFunction_17 rfl (lv_at hl 0 rfl) ?_
    refine gf_m_Model_0_sections C hP dd_Model_firstFunction_18 ?_
    refine lv_bipush (v := 8) hx hb dd_Model_firstFunction_21 (by decide) ?_
    obtain ⟨hi, h⟩ := xp_g h
    refine al_m_4 C hP hi dd_Model_firstFunction_23 ?_
    refine pf_m_Model_0_at C hP hS dd_Model_firstFunction_24 (fun H locs hP hS => ?_)
    obtain ⟨u2, eu2, h⟩ := xp_let h
    rw [← eu2] at hP
    refine lv_aload_n hx hb dd_Model_firstFunction_27 rfl (lv_at hl 0 rfl) ?_
    refine lv_aload_n hx hb dd_Model_firstFunction_28 rfl (lv_at hl 0 rfl) ?_
    refine gf_m_Model_0_codeMany C hP dd_Model_firstFunction_29 ?_
    refine pf_m_Model_0_limit C hP hS dd_Model_firstFunction_32 (fun H locs hP hS => ?_)
    obtain ⟨u3, eu3, h⟩ := xp_let h
    rw [← eu3] at hP
    refine lv_aload_n hx hb dd_Model_firstFunction_35 rfl (lv_at hl 0 rfl) ?_
    obtain ⟨a4, u5, hq, h⟩ := xp_seq h
    refine xk_goesL (xr_V (As := []) (rest := []) C hP hS (ct_Model_number htr hok hq) kq_Model_295 0 11 rfl rfl ⟨rfl, rfl, Nat.le_of_ble_eq_true rfl, Nat.le_of_ble_eq_true rfl⟩ ⟨Nat.le_of_ble_eq_true rfl, Nat.le_of_ble_eq_true rfl⟩ hl.1 rfl rfl (Nat.le_of_ble_eq_true rfl) dd_Model_firstFunction_36) hS (fun H locs hP hS => ?_)
    clear hq
    refine lv_lstore_n (lv' := [(1, .long a4), (0, .ref (ad 0))]) hx hb dd_Model_firstFunction_39 rfl hl (by decide) rfl (fun ls hl => ?_)
    refine lv_aload_n hx hb dd_Model_firstFunction_40 rfl (lv_at hl 1 rfl) ?_
    refine lv_lload_n hx hb dd_Model_firstFunction_41 rfl (lv_at hl 0 rfl) ?_
    refine lv_aload_n hx hb dd_Model_firstFunction_42 rfl (lv_at hl 1 rfl) ?_
    refine gf_m_Model_0_functions C hP dd_Model_firstFunction_43 ?_
    refine lv_i2l hx hb dd_Model_firstFunction_46 rfl ?_
    refine xr_lc_lt (tgt := 55) hx hb dd_Model_firstFunction_47 dd_Model_firstFunction_48 (by decide) (fun hc => ?_) (fun hc => ?_)
    · have h := xp_t hc h
      refine lv_iconst (v := 0) hx hb dd_Model_firstFunction_55 (by decide) ?_
      exact wj_Model_firstFunction_56 htr C hne h hP hS (lv_sub hl [1, 0] rfl)
    · have h := xp_f hc h
      refine lv_iconst (v := 1) hx hb dd_Model_firstFunction_51 (by decide) ?_
      refine lv_goto (tgt := 56) hx hb dd_Model_firstFunction_52 (by decide) ?_
      exact wj_Model_firstFunction_56 htr C hne h hP hS (lv_sub hl [1, 0] rfl)
  · have h := xp_f hc h
    obtain ⟨rfl, rfl⟩ := xp_r h
    exact xr_vret C hP hS dd_Model_firstFunction_15
abbrev rm_Model_isNameAgain : Room := { frames := 1, cells := 1, slots := 6, locals := 0 }
noncomputable def jb_Model_isNameAgain_95 (fu : Nat) (k4 : Int32 → Int32 → Int32 → xk_St → Option (Int32 × xk_St)) (b1 : Int32) (b2 : Int32) (b3 : Int32) (u : xk_St) : Option (Int32 × xk_St) :=
  (xs_let (b3 + (1 : Int32)) fun a1 => k4 b1 b2 a1 u)
noncomputable def jb_Model_isNameAgain_88 (fu : Nat) (k4 : Int32 → Int32 → Int32 → xk_St → Option (Int32 × xk_St)) (k37 : Int32 → Int32 → Int32 → Int32 → xk_St → Option (Int32 × xk_St)) (b1 : Int32) (b3 : Int32) (b4 : Int32) (s0 : Int32) (u : xk_St) : Option (Int32 × xk_St) :=
  (xs_let (b4 + (1 : Int32)) fun a2 => k37 b1 s0 b3 a2 u)
noncomputable def jb_Model_isNameAgain_37 (fu : Nat) (k4 : Int32 → Int32 → Int32 → xk_St → Option (Int32 × xk_St)) : Nat → Int32 → Int32 → Int32 → Int32 → xk_St → Option (Int32 × xk_St)
  | 0 => fun _ _ _ _ _ => none
  | n + 1 => fun b1 b2 b3 b4 u =>
    xs_let (jb_Model_isNameAgain_37 fu k4 n) fun k37 =>
    (if b1 < 0 ∨ 64 ≤ b1.toNatClampNeg then none else if (u.2.2.1 17 b1.toNatClampNeg) ≤ b4 then (jb_Model_isNameAgain_95 fu k4 b1 b2 b3 u) else (if b2 = (0 : Int32) then (jb_Model_isNameAgain_95 fu k4 b1 b2 b3 u) else ((if b3 < 0 ∨ 64 ≤ b3.toNatClampNeg then none else if ((u.2.2.1 16 b3.toNatClampNeg) + b4) < 0 ∨ 8192 ≤ ((u.2.2.1 16 b3.toNatClampNeg) + b4).toNatClampNeg then none else if b1 < 0 ∨ 64 ≤ b1.toNatClampNeg then none else if ((u.2.2.1 16 b1.toNatClampNeg) + b4) < 0 ∨ 8192 ≤ ((u.2.2.1 16 b1.toNatClampNeg) + b4).toNatClampNeg then none else if (u.2.2.1 1 ((u.2.2.1 16 b3.toNatClampNeg) + b4).toNatClampNeg) = (u.2.2.1 1 ((u.2.2.1 16 b1.toNatClampNeg) + b4).toNatClampNeg) then (jb_Model_isNameAgain_88 fu k4 k37 b1 b3 b4 (1 : Int32) u) else (jb_Model_isNameAgain_88 fu k4 k37 b1 b3 b4 (0 : Int32) u)))))
noncomputable def jb_Model_isNameAgain_33 (fu : Nat) (k4 : Int32 → Int32 → Int32 → xk_St → Option (Int32 × xk_St)) (b1 : Int32) (b3 : Int32) (s0 : Int32) (u : xk_St) : Option (Int32 × xk_St) :=
  jb_Model_isNameAgain_37 fu k4 fu b1 s0 b3 (0 : Int32) u
noncomputable def jb_Model_isNameAgain_4 (fu : Nat) : Nat → Int32 → Int32 → Int32 → xk_St → Option (Int32 × xk_St)
  | 0 => fun _ _ _ _ => none
  | n + 1 => fun b1 b2 b3 u =>
    xs_let (jb_Model_isNameAgain_4 fu  n) fun k4 =>
    if b1 ≤ b3 then (if b2 = 0 ∨ b2 = 1 then some (b2, u) else none) else (if b2 = (0 : Int32) then ((if b3 < 0 ∨ 64 ≤ b3.toNatClampNeg then none else if b1 < 0 ∨ 64 ≤ b1.toNatClampNeg then none else if (u.2.2.1 17 b3.toNatClampNeg) = (u.2.2.1 17 b1.toNatClampNeg) then (jb_Model_isNameAgain_33 fu k4 b1 b3 (1 : Int32) u) else (jb_Model_isNameAgain_33 fu k4 b1 b3 (0 : Int32) u))) else (if b2 = 0 ∨ b2 = 1 then some (b2, u) else none))
noncomputable def fm_Model_isNameAgain (fu : Nat) (x0 : Int32) (u : xk_St) : Option (Int32 × xk_St) :=
  jb_Model_isNameAgain_4 fu fu x0 (0 : Int32) (0 : Int32) u
set_option maxHeartbeats 4000000 in
set_option maxRecDepth 100000 in
theorem wj_Model_isNameAgain_95 {p : Program} {l : Launch} {e : Env} {s : State} {m : MethodId} {args : Array Value} {below : List Frame} {meth : Method} {c : Code} {D : va_G} {ad : Nat → Nat} {ca : Nat → ClassId} {ads : List Nat} {fu : Nat} (htr : l.stackTraces = false) (C : xk_C D kx_cl (kx_ty ca) (kw_m ad ca) ads "ModuleHouseModel" prog_14_method_51_code 5 (some .boolean) p e s m args meth c) (hne : c.exceptionTable.isEmpty = true) {u' : xk_St} {r : Int32} {k4 : Int32 → Int32 → Int32 → xk_St → Option (Int32 × xk_St)} (hk4 : ∀ (c0 : Int32) (c1 : Int32) (c2 : Int32) (u : xk_St) (H : Heap) (locs : List Loc) (ls : Array Slot), k4 c0 c1 c2 u = some (r, u') → va_P D kx_cl (kw_m ad ca u) H → va_S (xk_A ads s.heap.size) s.heap H locs → lv_has ls 5 [(0, .ref (ad 0)), (1, .int c0), (2, .int c1), (3, .int c2)] → W p l e rm_Model_isNameAgain s m args below meth c H locs 0 0 (xk_MQ below (xk_Qc D kx_cl (kw_m ad ca) ads (xo_i (.inl r)) u') args s (xk_A ads s.heap.size)) (F0 m 4 ls [])) {b1 : Int32} {b2 : Int32} {b3 : Int32} {u : xk_St} {H : Heap} {locs : List Loc} {ls : Array Slot} (h : jb_Model_isNameAgain_95 fu k4 b1 b2 b3 u = some (r, u')) (hP : va_P D kx_cl (kw_m ad ca u) H) (hS : va_S (xk_A ads s.heap.size) s.heap H locs) (hl : lv_has ls 5 [(0, .ref (ad 0)), (1, .int b1), (2, .int b2), (3, .int b3)]) : W p l e rm_Model_isNameAgain s m args below meth c H locs 0 0 (xk_MQ below (xk_Qc D kx_cl (kw_m ad ca) ads (xo_i (.inl r)) u') args s (xk_A ads s.heap.size)) (F0 m 95 ls []) := by
  have hx := C.1.1
  have hb := C.1.2.1
  have hok := C.2.2.1
  unfold jb_Model_isNameAgain_95 at h
  obtain ⟨a1, ea1, h⟩ := xp_let h
  refine lv_iinc (v := a1) (lv' := [(3, .int a1), (0, .ref (ad 0)), (1, .int b1), (2, .int b2)]) hx hb dd_Model_isNameAgain_95 hl (k := 3) rfl (by rw [ea1]; first | rfl | decide) (by decide) rfl (fun ls hl => ?_)
  refine lv_goto (tgt := 4) hx hb dd_Model_isNameAgain_98 (by decide) ?_
  exact hk4 b1 b2 a1 u _ _ _ h hP hS (lv_sub hl [1, 2, 3, 0] rfl)
set_option maxHeartbeats 4000000 in
set_option maxRecDepth 100000 in
theorem wj_Model_isNameAgain_88 {p : Program} {l : Launch} {e : Env} {s : State} {m : MethodId} {args : Array Value} {below : List Frame} {meth : Method} {c : Code} {D : va_G} {ad : Nat → Nat} {ca : Nat → ClassId} {ads : List Nat} {fu : Nat} (htr : l.stackTraces = false) (C : xk_C D kx_cl (kx_ty ca) (kw_m ad ca) ads "ModuleHouseModel" prog_14_method_51_code 5 (some .boolean) p e s m args meth c) (hne : c.exceptionTable.isEmpty = true) {u' : xk_St} {r : Int32} {k4 : Int32 → Int32 → Int32 → xk_St → Option (Int32 × xk_St)} {k37 : Int32 → Int32 → Int32 → Int32 → xk_St → Option (Int32 × xk_St)} (hk4 : ∀ (c0 : Int32) (c1 : Int32) (c2 : Int32) (u : xk_St) (H : Heap) (locs : List Loc) (ls : Array Slot), k4 c0 c1 c2 u = some (r, u') → va_P D kx_cl (kw_m ad ca u) H → va_S (xk_A ads s.heap.size) s.heap H locs → lv_has ls 5 [(0, .ref (ad 0)), (1, .int c0), (2, .int c1), (3, .int c2)] → W p l e rm_Model_isNameAgain s m args below meth c H locs 0 0 (xk_MQ below (xk_Qc D kx_cl (kw_m ad ca) ads (xo_i (.inl r)) u') args s (xk_A ads s.heap.size)) (F0 m 4 ls [])) (hk37 : ∀ (c0 : Int32) (c1 : Int32) (c2 : Int32) (c3 : Int32) (u : xk_St) (H : Heap) (locs : List Loc) (ls : Array Slot), k37 c0 c1 c2 c3 u = some (r, u') → va_P D kx_cl (kw_m ad ca u) H → va_S (xk_A ads s.heap.size) s.heap H locs → lv_has ls 5 [(0, .ref (ad 0)), (1, .int c0), (2, .int c1), (3, .int c2), (4, .int c3)] → W p l e rm_Model_isNameAgain s m args below meth c H locs 0 0 (xk_MQ below (xk_Qc D kx_cl (kw_m ad ca) ads (xo_i (.inl r)) u') args s (xk_A ads s.heap.size)) (F0 m 37 ls [])) {b1 : Int32} {b3 : Int32} {b4 : Int32} {s0 : Int32} {u : xk_St} {H : Heap} {locs : List Loc} {ls : Array Slot} (h : jb_Model_isNameAgain_88 fu k4 k37 b1 b3 b4 s0 u = some (r, u')) (hP : va_P D kx_cl (kw_m ad ca u) H) (hS : va_S (xk_A ads s.heap.size) s.heap H locs) (hl : lv_has ls 5 [(0, .ref (ad 0)), (1, .int b1), (3, .int b3), (4, .int b4)]) : W p l e rm_Model_isNameAgain s m args below meth c H locs 0 0 (xk_MQ below (xk_Qc D kx_cl (kw_m ad ca) ads (xo_i (.inl r)) u') args s (xk_A ads s.heap.size)) (F0 m 88 ls [.int s0]) := by
  have hx := C.1.1
  have hb := C.1.2.1
  have hok := C.2.2.1
  unfold jb_Model_isNameAgain_88 at h
  refine lv_istore_n (lv' := [(2, .int s0), (0, .ref (ad 0)), (1, .int b1), (3, .int b3), (4, .int b4)]) hx hb dd_Model_isNameAgain_88 rfl hl (by decide) rfl (fun ls hl => ?_)
  obtain ⟨a2, ea2, h⟩ := xp_let h
  refine lv_iinc (v := a2) (lv' := [(4, .int a2), (2, .int s0), (0, .ref (ad 0)), (1, .int b1), (3, .int b3)]) hx hb dd_Model_isNameAgain_89 hl (k := 4) rfl (by rw [ea2]; first | rfl | decide) (by decide) rfl (fun ls hl => ?_)
  refine lv_goto (tgt := 37) hx hb dd_Model_isNameAgain_92 (by decide) ?_
  exact hk37 b1 s0 b3 a2 u _ _ _ h hP hS (lv_sub hl [2, 3, 1, 4, 0] rfl)
set_option maxHeartbeats 4000000 in
set_option maxRecDepth 100000 in
theorem wj_Model_isNameAgain_37 {p : Program} {l : Launch} {e : Env} {s : State} {m : MethodId} {args : Array Value} {below : List Frame} {meth : Method} {c : Code} {D : va_G} {ad : Nat → Nat} {ca : Nat → ClassId} {ads : List Nat} {fu : Nat} (htr : l.stackTraces = false) (C : xk_C D kx_cl (kx_ty ca) (kw_m ad ca) ads "ModuleHouseModel" prog_14_method_51_code 5 (some .boolean) p e s m args meth c) (hne : c.exceptionTable.isEmpty = true) {u' : xk_St} {r : Int32} {k4 : Int32 → Int32 → Int32 → xk_St → Option (Int32 × xk_St)} (hk4 : ∀ (c0 : Int32) (c1 : Int32) (c2 : Int32) (u : xk_St) (H : Heap) (locs : List Loc) (ls : Array Slot), k4 c0 c1 c2 u = some (r, u') → va_P D kx_cl (kw_m ad ca u) H → va_S (xk_A ads s.heap.size) s.heap H locs → lv_has ls 5 [(0, .ref (ad 0)), (1, .int c0), (2, .int c1), (3, .int c2)] → W p l e rm_Model_isNameAgain s m args below meth c H locs 0 0 (xk_MQ below (xk_Qc D kx_cl (kw_m ad ca) ads (xo_i (.inl r)) u') args s (xk_A ads s.heap.size)) (F0 m 4 ls [])) : ∀ {n : Nat} {b1 : Int32} {b2 : Int32} {b3 : Int32} {b4 : Int32} {u : xk_St} {H : Heap} {locs : List Loc} {ls : Array Slot} (h : jb_Model_isNameAgain_37 fu k4 n b1 b2 b3 b4 u = some (r, u')) (hP : va_P D kx_cl (kw_m ad ca u) H) (hS : va_S (xk_A ads s.heap.size) s.heap H locs) (hl : lv_has ls 5 [(0, .ref (ad 0)), (1, .int b1), (2, .int b2), (3, .int b3), (4, .int b4)]), W p l e rm_Model_isNameAgain s m args below meth c H locs 0 0 (xk_MQ below (xk_Qc D kx_cl (kw_m ad ca) ads (xo_i (.inl r)) u') args s (xk_A ads s.heap.size)) (F0 m 37 ls []) := by
  intro n
  have hx := C.1.1
  have hb := C.1.2.1
  have hok := C.2.2.1
  induction n with
  | zero =>
    intro _ _ _ _ u H locs ls h
    have h : none = some (r, u') := h
    cases h
  | succ n ih =>
    intro b1 b2 b3 b4 u H locs ls h hP hS hl
    unfold jb_Model_isNameAgain_37 at h
    obtain ⟨k37, ek37, h⟩ := xp_let h
    have hk37 : ∀ (c0 : Int32) (c1 : Int32) (c2 : Int32) (c3 : Int32) (u : xk_St) (H : Heap) (locs : List Loc) (ls : Array Slot), k37 c0 c1 c2 c3 u = some (r, u') → va_P D kx_cl (kw_m ad ca u) H → va_S (xk_A ads s.heap.size) s.heap H locs → lv_has ls 5 [(0, .ref (ad 0)), (1, .int c0), (2, .int c1), (3, .int c2), (4, .int c3)] → W p l e rm_Model_isNameAgain s m args below meth c H locs 0 0 (xk_MQ below (xk_Qc D kx_cl (kw_m ad ca) ads (xo_i (.inl r)) u') args s (xk_A ads s.heap.size)) (F0 m 37 ls []) := by
      intro c0 c1 c2 c3 u H locs ls h hP hS hl
      subst ek37
      exact ih h hP hS hl
    clear ih ek37
    refine lv_iload hx hb dd_Model_isNameAgain_37 (lv_at hl 4 rfl) ?_
    refine lv_aload_n hx hb dd_Model_isNameAgain_39 rfl (lv_at hl 0 rfl) ?_
    refine gf_m_Model_0_nameMany C hP dd_Model_isNameAgain_40 ?_
    refine lv_iload_n hx hb dd_Model_isNameAgain_43 rfl (lv_at hl 1 rfl) ?_
    obtain ⟨hi, h⟩ := xp_g h
    refine al_m_19 C hP hi dd_Model_isNameAgain_44 ?_
    refine lv_icmp_ge (tgt := 95) hx hb dd_Model_isNameAgain_45 (by decide) (fun hc => ?_) (fun hc => ?_)
    · have h := xp_t hc h
      exact wj_Model_isNameAgain_95 htr C hne hk4 h hP hS (lv_sub hl [0, 1, 2, 3] rfl)
    · have h := xp_f hc h
      refine lv_iload_n hx hb dd_Model_isNameAgain_48 rfl (lv_at hl 2 rfl) ?_
      refine lv_if_eq (tgt := 95) hx hb dd_Model_isNameAgain_49 (by decide) (fun hc => ?_) (fun hc => ?_)
      · have h := xp_t hc h
        exact wj_Model_isNameAgain_95 htr C hne hk4 h hP hS (lv_sub hl [0, 1, 2, 3] rfl)
      · have h := xp_f hc h
        refine lv_aload_n hx hb dd_Model_isNameAgain_52 rfl (lv_at hl 0 rfl) ?_
        refine gf_m_Model_0_code C hP dd_Model_isNameAgain_53 ?_
        refine lv_aload_n hx hb dd_Model_isNameAgain_56 rfl (lv_at hl 0 rfl) ?_
        refine gf_m_Model_0_nameAt C hP dd_Model_isNameAgain_57 ?_
        refine lv_iload_n hx hb dd_Model_isNameAgain_60 rfl (lv_at hl 3 rfl) ?_
        obtain ⟨hi, h⟩ := xp_g h
        refine al_m_18 C hP hi dd_Model_isNameAgain_61 ?_
        refine lv_iload hx hb dd_Model_isNameAgain_62 (lv_at hl 4 rfl) ?_
        refine lv_iadd hx hb dd_Model_isNameAgain_64 ?_
        obtain ⟨hi, h⟩ := xp_g h
        refine al_m_3 C hP hi dd_Model_isNameAgain_65 ?_
        refine lv_aload_n hx hb dd_Model_isNameAgain_66 rfl (lv_at hl 0 rfl) ?_
        refine gf_m_Model_0_code C hP dd_Model_isNameAgain_67 ?_
        refine lv_aload_n hx hb dd_Model_isNameAgain_70 rfl (lv_at hl 0 rfl) ?_
        refine gf_m_Model_0_nameAt C hP dd_Model_isNameAgain_71 ?_
        refine lv_iload_n hx hb dd_Model_isNameAgain_74 rfl (lv_at hl 1 rfl) ?_
        obtain ⟨hi, h⟩ := xp_g h
        refine al_m_18 C hP hi dd_Model_isNameAgain_75 ?_
        refine lv_iload hx hb dd_Model_isNameAgain_76 (lv_at hl 4 rfl) ?_
        refine lv_iadd hx hb dd_Model_isNameAgain_78 ?_
        obtain ⟨hi, h⟩ := xp_g h
        refine al_m_3 C hP hi dd_Model_isNameAgain_79 ?_
        refine lv_icmp_ne (tgt := 87) hx hb dd_Model_isNameAgain_80 (by decide) (fun hc => ?_) (fun hc => ?_)
        · have h := xp_f hc h
          refine lv_iconst (v := 0) hx hb dd_Model_isNameAgain_87 (by decide) ?_
          exact wj_Model_isNameAgain_88 htr C hne hk4 hk37 h hP hS (lv_sub hl [0, 1, 3, 4] rfl)
        · have h := xp_t hc h
          refine lv_iconst (v := 1) hx hb dd_Model_isNameAgain_83 (by decide) ?_
          refine lv_goto (tgt := 88) hx hb dd_Model_isNameAgain_84 (by decide) ?_
          exact wj_Model_isNameAgain_88 htr C hne hk4 hk37 h hP hS (lv_sub hl [0, 1, 3, 4] rfl)
set_option maxHeartbeats 4000000 in
set_option maxRecDepth 100000 in
theorem wj_Model_isNameAgain_33 {p : Program} {l : Launch} {e : Env} {s : State} {m : MethodId} {args : Array Value} {below : List Frame} {meth : Method} {c : Code} {D : va_G} {ad : Nat → Nat} {ca : Nat → ClassId} {ads : List Nat} {fu : Nat} (htr : l.stackTraces = false) (C : xk_C D kx_cl (kx_ty ca) (kw_m ad ca) ads "ModuleHouseModel" prog_14_method_51_code 5 (some .boolean) p e s m args meth c) (hne : c.exceptionTable.isEmpty = true) {u' : xk_St} {r : Int32} {k4 : Int32 → Int32 → Int32 → xk_St → Option (Int32 × xk_St)} (hk4 : ∀ (c0 : Int32) (c1 : Int32) (c2 : Int32) (u : xk_St) (H : Heap) (locs : List Loc) (ls : Array Slot), k4 c0 c1 c2 u = some (r, u') → va_P D kx_cl (kw_m ad ca u) H → va_S (xk_A ads s.heap.size) s.heap H locs → lv_has ls 5 [(0, .ref (ad 0)), (1, .int c0), (2, .int c1), (3, .int c2)] → W p l e rm_Model_isNameAgain s m args below meth c H locs 0 0 (xk_MQ below (xk_Qc D kx_cl (kw_m ad ca) ads (xo_i (.inl r)) u') args s (xk_A ads s.heap.size)) (F0 m 4 ls [])) {b1 : Int32} {b3 : Int32} {s0 : Int32} {u : xk_St} {H : Heap} {locs : List Loc} {ls : Array Slot} (h : jb_Model_isNameAgain_33 fu k4 b1 b3 s0 u = some (r, u')) (hP : va_P D kx_cl (kw_m ad ca u) H) (hS : va_S (xk_A ads s.heap.size) s.heap H locs) (hl : lv_has ls 5 [(0, .ref (ad 0)), (1, .int b1), (3, .int b3)]) : W p l e rm_Model_isNameAgain s m args below meth c H locs 0 0 (xk_MQ below (xk_Qc D kx_cl (kw_m ad ca) ads (xo_i (.inl r)) u') args s (xk_A ads s.heap.size)) (F0 m 33 ls [.int s0]) := by
  have hx := C.1.1
  have hb := C.1.2.1
  have hok := C.2.2.1
  unfold jb_Model_isNameAgain_33 at h
  refine lv_istore_n (lv' := [(2, .int s0), (0, .ref (ad 0)), (1, .int b1), (3, .int b3)]) hx hb dd_Model_isNameAgain_33 rfl hl (by decide) rfl (fun ls hl => ?_)
  refine lv_iconst (v := 0) hx hb dd_Model_isNameAgain_34 (by decide) ?_
  refine lv_istore (lv' := [(4, .int (0 : Int32)), (2, .int s0), (0, .ref (ad 0)), (1, .int b1), (3, .int b3)]) hx hb dd_Model_isNameAgain_35 hl (by decide) rfl (fun ls hl => ?_)
  exact wj_Model_isNameAgain_37 htr C hne hk4 h hP hS (lv_sub hl [2, 3, 1, 4, 0] rfl)
set_option maxHeartbeats 4000000 in
set_option maxRecDepth 100000 in
theorem wj_Model_isNameAgain_4 {p : Program} {l : Launch} {e : Env} {s : State} {m : MethodId} {args : Array Value} {below : List Frame} {meth : Method} {c : Code} {D : va_G} {ad : Nat → Nat} {ca : Nat → ClassId} {ads : List Nat} {fu : Nat} (htr : l.stackTraces = false) (C : xk_C D kx_cl (kx_ty ca) (kw_m ad ca) ads "ModuleHouseModel" prog_14_method_51_code 5 (some .boolean) p e s m args meth c) (hne : c.exceptionTable.isEmpty = true) {u' : xk_St} {r : Int32} : ∀ {n : Nat} {b1 : Int32} {b2 : Int32} {b3 : Int32} {u : xk_St} {H : Heap} {locs : List Loc} {ls : Array Slot} (h : jb_Model_isNameAgain_4 fu  n b1 b2 b3 u = some (r, u')) (hP : va_P D kx_cl (kw_m ad ca u) H) (hS : va_S (xk_A ads s.heap.size) s.heap H locs) (hl : lv_has ls 5 [(0, .ref (ad 0)), (1, .int b1), (2, .int b2), (3, .int b3)]), W p l e rm_Model_isNameAgain s m args below meth c H locs 0 0 (xk_MQ below (xk_Qc D kx_cl (kw_m ad ca) ads (xo_i (.inl r)) u') args s (xk_A ads s.heap.size)) (F0 m 4 ls []) := by
  intro n
  have hx := C.1.1
  have hb := C.1.2.1
  have hok := C.2.2.1
  induction n with
  | zero =>
    intro _ _ _ u H locs ls h
    have h : none = some (r, u') := h
    cases h
  | succ n ih =>
    intro b1 b2 b3 u H locs ls h hP hS hl
    unfold jb_Model_isNameAgain_4 at h
    obtain ⟨k4, ek4, h⟩ := xp_let h
    have hk4 : ∀ (c0 : Int32) (c1 : Int32) (c2 : Int32) (u : xk_St) (H : Heap) (locs : List Loc) (ls : Array Slot), k4 c0 c1 c2 u = some (r, u') → va_P D kx_cl (kw_m ad ca u) H → va_S (xk_A ads s.heap.size) s.heap H locs → lv_has ls 5 [(0, .ref (ad 0)), (1, .int c0), (2, .int c1), (3, .int c2)] → W p l e rm_Model_isNameAgain s m args below meth c H locs 0 0 (xk_MQ below (xk_Qc D kx_cl (kw_m ad ca) ads (xo_i (.inl r)) u') args s (xk_A ads s.heap.size)) (F0 m 4 ls []) := by
      intro c0 c1 c2 u H locs ls h hP hS hl
      subst ek4
      exact ih h hP hS hl
    clear ih ek4
    refine lv_iload_n hx hb dd_Model_isNameAgain_4 rfl (lv_at hl 3 rfl) ?_
    refine lv_iload_n hx hb dd_Model_isNameAgain_5 rfl (lv_at hl 1 rfl) ?_
    refine lv_icmp_ge (tgt := 101) hx hb dd_Model_isNameAgain_6 (by decide) (fun hc => ?_) (fun hc => ?_)
    · have h := xp_t hc h
      refine lv_iload_n hx hb dd_Model_isNameAgain_101 rfl (lv_at hl 2 rfl) ?_
      obtain ⟨hz, h⟩ := xp_p h
      obtain ⟨rfl, rfl⟩ := xp_r h
      exact xr_zret C hP hS hz dd_Model_isNameAgain_102
    · have h := xp_f hc h
      refine lv_iload_n hx hb dd_Model_isNameAgain_9 rfl (lv_at hl 2 rfl) ?_
      refine lv_if_ne (tgt := 101) hx hb dd_Model_isNameAgain_10 (by decide) (fun hc => ?_) (fun hc => ?_)
      · have h := xp_f hc h
        refine lv_iload_n hx hb dd_Model_isNameAgain_101 rfl (lv_at hl 2 rfl) ?_
        obtain ⟨hz, h⟩ := xp_p h
        obtain ⟨rfl, rfl⟩ := xp_r h
        exact xr_zret C hP hS hz dd_Model_isNameAgain_102
      · have h := xp_t hc h
        refine lv_aload_n hx hb dd_Model_isNameAgain_13 rfl (lv_at hl 0 rfl) ?_
        refine gf_m_Model_0_nameMany C hP dd_Model_isNameAgain_14 ?_
        refine lv_iload_n hx hb dd_Model_isNameAgain_17 rfl (lv_at hl 3 rfl) ?_
        obtain ⟨hi, h⟩ := xp_g h
        refine al_m_19 C hP hi dd_Model_isNameAgain_18 ?_
        refine lv_aload_n hx hb dd_Model_isNameAgain_19 rfl (lv_at hl 0 rfl) ?_
        refine gf_m_Model_0_nameMany C hP dd_Model_isNameAgain_20 ?_
        refine lv_iload_n hx hb dd_Model_isNameAgain_23 rfl (lv_at hl 1 rfl) ?_
        obtain ⟨hi, h⟩ := xp_g h
        refine al_m_19 C hP hi dd_Model_isNameAgain_24 ?_
        refine lv_icmp_ne (tgt := 32) hx hb dd_Model_isNameAgain_25 (by decide) (fun hc => ?_) (fun hc => ?_)
        · have h := xp_f hc h
          refine lv_iconst (v := 0) hx hb dd_Model_isNameAgain_32 (by decide) ?_
          exact wj_Model_isNameAgain_33 htr C hne hk4 h hP hS (lv_sub hl [0, 1, 3] rfl)
        · have h := xp_t hc h
          refine lv_iconst (v := 1) hx hb dd_Model_isNameAgain_28 (by decide) ?_
          refine lv_goto (tgt := 33) hx hb dd_Model_isNameAgain_29 (by decide) ?_
          exact wj_Model_isNameAgain_33 htr C hne hk4 h hP hS (lv_sub hl [0, 1, 3] rfl)
set_option maxHeartbeats 4000000 in
set_option maxRecDepth 100000 in
theorem ct_Model_isNameAgain {l : Launch} {D : va_G} {ad : Nat → Nat} {ca : Nat → ClassId} {ads : List Nat} (htr : l.stackTraces = false) (hok : xk_ok (kw_m ad ca) ads) {fu : Nat} {x0 : Int32} {u u' : xk_St} {r : Int32} (h : fm_Model_isNameAgain fu x0 u = some (r, u')) :
    ∀ sz, xk_Met l ⟨"ModuleHouseModel", "isNameAgain", "(I)Z"⟩ (Cond.code ⟨"ModuleHouseModel", "isNameAgain", "(I)Z"⟩ prog_14_method_51_code 5 (some .boolean) :: xk_gd) rm_Model_isNameAgain (xk_Pc D kx_cl (kx_ty ca) (kw_m ad ca) ads xk_F sz [.ref (ad 0), .int x0] u) (xk_Qc D kx_cl (kw_m ad ca) ads (xo_i (.inl r)) u') (xk_A ads sz) := by
  unfold fm_Model_isNameAgain at h
  refine xk_con (by decide) htr hok (Nat.le_of_ble_eq_true rfl) (fun p e s m below meth c ls C hne hl hP => ?_)
  have hx := C.1.1
  have hb := C.1.2.1
  have hS : va_S (xk_A ads s.heap.size) s.heap s.heap [] := va_S.rf
  have hl : lv_has ls 5 [(0, .ref (ad 0)), (1, .int x0)] := hl
  refine lv_iconst (v := 0) hx hb dd_Model_isNameAgain_0 (by decide) ?_
  refine lv_istore_n (lv' := [(2, .int (0 : Int32)), (0, .ref (ad 0)), (1, .int x0)]) hx hb dd_Model_isNameAgain_1 rfl hl (by decide) rfl (fun ls hl => ?_)
  refine lv_iconst (v := 0) hx hb dd_Model_isNameAgain_2 (by decide) ?_
  refine lv_istore_n (lv' := [(3, .int (0 : Int32)), (2, .int (0 : Int32)), (0, .ref (ad 0)), (1, .int x0)]) hx hb dd_Model_isNameAgain_3 rfl hl (by decide) rfl (fun ls hl => ?_)
  exact wj_Model_isNameAgain_4 htr C hne h hP hS (lv_sub hl [2, 3, 1, 0] rfl)
abbrev rm_Model_exportRow : Room := { frames := 5, cells := 1, slots := 6, locals := 88 }
noncomputable def jb_Model_exportRow_171 (fu : Nat) (k14 : Int32 → Int32 → xk_St → Option (Unit × xk_St)) (b1 : Int32) (b2 : Int32) (b3 : Int64) (s0 : Int32) (u : xk_St) : Option (Unit × xk_St) :=
  (if s0 = 0 ∨ s0 = 1 then ( xs_let (xs_I u 7 s0) fun u14 => if b2 < 0 ∨ 64 ≤ b2.toNatClampNeg then none else xs_let (xs_A u14 19 b2.toNatClampNeg (b3.toInt32)) fun u15 => xs_let (xs_I u15 19 ((u15.1 19) + (1 : Int32))) fun u16 => xs_let (b2 + (1 : Int32)) fun a17 => k14 b1 a17 u16  ) else none)
noncomputable def jb_Model_exportRow_166 (fu : Nat) (k14 : Int32 → Int32 → xk_St → Option (Unit × xk_St)) (b1 : Int32) (b2 : Int32) (b3 : Int64) (u : xk_St) : Option (Unit × xk_St) :=
  jb_Model_exportRow_171 fu k14 b1 b2 b3 (1 : Int32) u
noncomputable def jb_Model_exportRow_147 (fu : Nat) (k14 : Int32 → Int32 → xk_St → Option (Unit × xk_St)) (b1 : Int32) (b2 : Int32) (b3 : Int64) (s0 : Int32) (u : xk_St) : Option (Unit × xk_St) :=
  if (s0.toInt64) ≤ b3 then (jb_Model_exportRow_166 fu k14 b1 b2 b3 u) else ((xs_seq (fm_Model_isNameAgain fu b2 u) fun a18 u19 => if a18 = (0 : Int32) then (jb_Model_exportRow_171 fu k14 b1 b2 b3 (0 : Int32) u19) else (jb_Model_exportRow_166 fu k14 b1 b2 b3 u19)))
noncomputable def jb_Model_exportRow_14 (fu : Nat) : Nat → Int32 → Int32 → xk_St → Option (Unit × xk_St)
  | 0 => fun _ _ _ => none
  | n + 1 => fun b1 b2 u =>
    xs_let (jb_Model_exportRow_14 fu  n) fun k14 =>
    if b1 ≤ b2 then (some ((()), u)) else (if (u.1 7) = (0 : Int32) then ((xs_seq (fm_Model_number fu u) fun a4 u5 => if b2 < 0 ∨ 64 ≤ b2.toNatClampNeg then none else xs_let (xs_A u5 17 b2.toNatClampNeg (a4.toInt32)) fun u6 => if b2 < 0 ∨ 64 ≤ b2.toNatClampNeg then none else xs_let (xs_A u6 16 b2.toNatClampNeg (u6.1 4)) fun u7 => if b2 < 0 ∨ 64 ≤ b2.toNatClampNeg then none else xs_let (xs_I u7 4 ((u7.1 4) + (u7.2.2.1 17 b2.toNatClampNeg))) fun u8 => xs_seq (fm_Model_one u8) fun a9 u10 => if b2 < 0 ∨ 64 ≤ b2.toNatClampNeg then none else xs_let (xs_A u10 18 b2.toNatClampNeg a9) fun u11 => xs_seq (fm_Model_number fu u11) fun a12 u13 => if b2 < 0 ∨ 64 ≤ b2.toNatClampNeg then none else if (u13.2.2.1 18 b2.toNatClampNeg) = (0 : Int32) then (jb_Model_exportRow_147 fu k14 b1 b2 a12 (u13.1 13) u13) else ((if b2 < 0 ∨ 64 ≤ b2.toNatClampNeg then none else if (u13.2.2.1 18 b2.toNatClampNeg) = (1 : Int32) then (if (u13.1 14) = (0 : Int32) then (jb_Model_exportRow_147 fu k14 b1 b2 a12 (0 : Int32) u13) else (jb_Model_exportRow_147 fu k14 b1 b2 a12 (1 : Int32) u13)) else ((if b2 < 0 ∨ 64 ≤ b2.toNatClampNeg then none else if (u13.2.2.1 18 b2.toNatClampNeg) = (2 : Int32) then (if (u13.1 15) = (0 : Int32) then (jb_Model_exportRow_147 fu k14 b1 b2 a12 (0 : Int32) u13) else (jb_Model_exportRow_147 fu k14 b1 b2 a12 (1 : Int32) u13)) else (jb_Model_exportRow_147 fu k14 b1 b2 a12 (u13.1 18) u13))))))) else (some ((()), u)))
noncomputable def fm_Model_exportRow (fu : Nat) (u : xk_St) : Option (Unit × xk_St) :=
  (xs_let (xs_I u 19 (0 : Int32)) fun u1 => xs_seq (fm_Model_rowOf fu (7 : Int32) u1) fun a2 u3 => jb_Model_exportRow_14 fu fu a2 (0 : Int32) u3)
set_option maxHeartbeats 4000000 in
set_option maxRecDepth 100000 in
theorem wj_Model_exportRow_171 {p : Program} {l : Launch} {e : Env} {s : State} {m : MethodId} {args : Array Value} {below : List Frame} {meth : Method} {c : Code} {D : va_G} {ad : Nat → Nat} {ca : Nat → ClassId} {ads : List Nat} {fu : Nat} (htr : l.stackTraces = false) (C : xk_C D kx_cl (kx_ty ca) (kw_m ad ca) ads "ModuleHouseModel" prog_14_method_52_code 6 none p e s m args meth c) (hne : c.exceptionTable.isEmpty = true) {u' : xk_St} {r : Unit} {k14 : Int32 → Int32 → xk_St → Option (Unit × xk_St)} (hk14 : ∀ (c0 : Int32) (c1 : Int32) (u : xk_St) (H : Heap) (locs : List Loc) (ls : Array Slot), k14 c0 c1 u = some (r, u') → va_P D kx_cl (kw_m ad ca u) H → va_S (xk_A ads s.heap.size) s.heap H locs → lv_has ls 6 [(0, .ref (ad 0)), (1, .int c0), (2, .int c1)] → W p l e rm_Model_exportRow s m args below meth c H locs 0 0 (xk_MQ below (xk_Qc D kx_cl (kw_m ad ca) ads (xo_v (.inl r)) u') args s (xk_A ads s.heap.size)) (F0 m 14 ls [])) {b1 : Int32} {b2 : Int32} {b3 : Int64} {s0 : Int32} {u : xk_St} {H : Heap} {locs : List Loc} {ls : Array Slot} (h : jb_Model_exportRow_171 fu k14 b1 b2 b3 s0 u = some (r, u')) (hP : va_P D kx_cl (kw_m ad ca u) H) (hS : va_S (xk_A ads s.heap.size) s.heap H locs) (hl : lv_has ls 6 [(0, .ref (ad 0)), (1, .int b1), (2, .int b2), (3, .long b3)]) : W p l e rm_Model_exportRow s m args below meth c H locs 0 0 (xk_MQ below (xk_Qc D kx_cl (kw_m ad ca) ads (xo_v (.inl r)) u') args s (xk_A ads s.heap.size)) (F0 m 171 ls [.int s0, .ref (ad 0)]) := by
  have hx := C.1.1
  have hb := C.1.2.1
  have hok := C.2.2.1
  unfold jb_Model_exportRow_171 at h
  obtain ⟨hz, h⟩ := xp_p h
  refine pf_m_Model_0_wrong C hP hS hz dd_Model_exportRow_171 (fun H locs hP hS => ?_)
  obtain ⟨u14, eu14, h⟩ := xp_let h
  rw [← eu14] at hP
  refine lv_aload_n hx hb dd_Model_exportRow_174 rfl (lv_at hl 0 rfl) ?_
  refine gf_m_Model_0_exportNumber C hP dd_Model_exportRow_175 ?_
  refine lv_iload_n hx hb dd_Model_exportRow_178 rfl (lv_at hl 2 rfl) ?_
  refine lv_lload_n hx hb dd_Model_exportRow_179 rfl (lv_at hl 3 rfl) ?_
  refine lv_l2i hx hb dd_Model_exportRow_180 rfl ?_
  obtain ⟨hi, h⟩ := xp_g h
  refine as_m_21 C hP hS hi dd_Model_exportRow_181 (fun H locs hP hS => ?_)
  obtain ⟨u15, eu15, h⟩ := xp_let h
  rw [← eu15] at hP
  refine lv_aload_n hx hb dd_Model_exportRow_182 rfl (lv_at hl 0 rfl) ?_
  refine lv_dup hx hb dd_Model_exportRow_183 rfl ?_
  refine gf_m_Model_0_exports C hP dd_Model_exportRow_184 ?_
  refine lv_iconst (v := 1) hx hb dd_Model_exportRow_187 (by decide) ?_
  refine lv_iadd hx hb dd_Model_exportRow_188 ?_
  refine pf_m_Model_0_exports C hP hS dd_Model_exportRow_189 (fun H locs hP hS => ?_)
  obtain ⟨u16, eu16, h⟩ := xp_let h
  rw [← eu16] at hP
  obtain ⟨a17, ea17, h⟩ := xp_let h
  refine lv_iinc (v := a17) (lv' := [(2, .int a17), (0, .ref (ad 0)), (1, .int b1), (3, .long b3)]) hx hb dd_Model_exportRow_192 hl (k := 2) rfl (by rw [ea17]; first | rfl | decide) (by decide) rfl (fun ls hl => ?_)
  refine lv_goto (tgt := 14) hx hb dd_Model_exportRow_195 (by decide) ?_
  exact hk14 b1 a17 u16 _ _ _ h hP hS (lv_sub hl [1, 2, 0] rfl)
set_option maxHeartbeats 4000000 in
set_option maxRecDepth 100000 in
theorem wj_Model_exportRow_166 {p : Program} {l : Launch} {e : Env} {s : State} {m : MethodId} {args : Array Value} {below : List Frame} {meth : Method} {c : Code} {D : va_G} {ad : Nat → Nat} {ca : Nat → ClassId} {ads : List Nat} {fu : Nat} (htr : l.stackTraces = false) (C : xk_C D kx_cl (kx_ty ca) (kw_m ad ca) ads "ModuleHouseModel" prog_14_method_52_code 6 none p e s m args meth c) (hne : c.exceptionTable.isEmpty = true) {u' : xk_St} {r : Unit} {k14 : Int32 → Int32 → xk_St → Option (Unit × xk_St)} (hk14 : ∀ (c0 : Int32) (c1 : Int32) (u : xk_St) (H : Heap) (locs : List Loc) (ls : Array Slot), k14 c0 c1 u = some (r, u') → va_P D kx_cl (kw_m ad ca u) H → va_S (xk_A ads s.heap.size) s.heap H locs → lv_has ls 6 [(0, .ref (ad 0)), (1, .int c0), (2, .int c1)] → W p l e rm_Model_exportRow s m args below meth c H locs 0 0 (xk_MQ below (xk_Qc D kx_cl (kw_m ad ca) ads (xo_v (.inl r)) u') args s (xk_A ads s.heap.size)) (F0 m 14 ls [])) {b1 : Int32} {b2 : Int32} {b3 : Int64} {u : xk_St} {H : Heap} {locs : List Loc} {ls : Array Slot} (h : jb_Model_exportRow_166 fu k14 b1 b2 b3 u = some (r, u')) (hP : va_P D kx_cl (kw_m ad ca u) H) (hS : va_S (xk_A ads s.heap.size) s.heap H locs) (hl : lv_has ls 6 [(0, .ref (ad 0)), (1, .int b1), (2, .int b2), (3, .long b3)]) : W p l e rm_Model_exportRow s m args below meth c H locs 0 0 (xk_MQ below (xk_Qc D kx_cl (kw_m ad ca) ads (xo_v (.inl r)) u') args s (xk_A ads s.heap.size)) (F0 m 166 ls [.ref (ad 0)]) := by
  have hx := C.1.1
  have hb := C.1.2.1
  have hok := C.2.2.1
  unfold jb_Model_exportRow_166 at h
  refine lv_iconst (v := 1) hx hb dd_Model_exportRow_166 (by decide) ?_
  refine lv_goto (tgt := 171) hx hb dd_Model_exportRow_167 (by decide) ?_
  exact wj_Model_exportRow_171 htr C hne hk14 h hP hS (lv_sub hl [0, 1, 2, 3] rfl)
set_option maxHeartbeats 4000000 in
set_option maxRecDepth 100000 in
theorem wj_Model_exportRow_147 {p : Program} {l : Launch} {e : Env} {s : State} {m : MethodId} {args : Array Value} {below : List Frame} {meth : Method} {c : Code} {D : va_G} {ad : Nat → Nat} {ca : Nat → ClassId} {ads : List Nat} {fu : Nat} (htr : l.stackTraces = false) (C : xk_C D kx_cl (kx_ty ca) (kw_m ad ca) ads "ModuleHouseModel" prog_14_method_52_code 6 none p e s m args meth c) (hne : c.exceptionTable.isEmpty = true) {u' : xk_St} {r : Unit} {k14 : Int32 → Int32 → xk_St → Option (Unit × xk_St)} (hk14 : ∀ (c0 : Int32) (c1 : Int32) (u : xk_St) (H : Heap) (locs : List Loc) (ls : Array Slot), k14 c0 c1 u = some (r, u') → va_P D kx_cl (kw_m ad ca u) H → va_S (xk_A ads s.heap.size) s.heap H locs → lv_has ls 6 [(0, .ref (ad 0)), (1, .int c0), (2, .int c1)] → W p l e rm_Model_exportRow s m args below meth c H locs 0 0 (xk_MQ below (xk_Qc D kx_cl (kw_m ad ca) ads (xo_v (.inl r)) u') args s (xk_A ads s.heap.size)) (F0 m 14 ls [])) {b1 : Int32} {b2 : Int32} {b3 : Int64} {s0 : Int32} {u : xk_St} {H : Heap} {locs : List Loc} {ls : Array Slot} (h : jb_Model_exportRow_147 fu k14 b1 b2 b3 s0 u = some (r, u')) (hP : va_P D kx_cl (kw_m ad ca u) H) (hS : va_S (xk_A ads s.heap.size) s.heap H locs) (hl : lv_has ls 6 [(0, .ref (ad 0)), (1, .int b1), (2, .int b2), (3, .long b3)]) : W p l e rm_Model_exportRow s m args below meth c H locs 0 0 (xk_MQ below (xk_Qc D kx_cl (kw_m ad ca) ads (xo_v (.inl r)) u') args s (xk_A ads s.heap.size)) (F0 m 147 ls [.int s0]) := by
  have hx := C.1.1
  have hb := C.1.2.1
  have hok := C.2.2.1
  unfold jb_Model_exportRow_147 at h
  refine lv_istore (lv' := [(5, .int s0), (0, .ref (ad 0)), (1, .int b1), (2, .int b2), (3, .long b3)]) hx hb dd_Model_exportRow_147 hl (by decide) rfl (fun ls hl => ?_)
  refine lv_aload_n hx hb dd_Model_exportRow_149 rfl (lv_at hl 1 rfl) ?_
  refine lv_lload_n hx hb dd_Model_exportRow_150 rfl (lv_at hl 4 rfl) ?_
  refine lv_iload hx hb dd_Model_exportRow_151 (lv_at hl 0 rfl) ?_
  refine lv_i2l hx hb dd_Model_exportRow_153 rfl ?_
  refine xr_lc_ge (tgt := 166) hx hb dd_Model_exportRow_154 dd_Model_exportRow_155 (by decide) (fun hc => ?_) (fun hc => ?_)
  · have h := xp_t hc h
    exact wj_Model_exportRow_166 htr C hne hk14 h hP hS (lv_sub hl [1, 2, 3, 4] rfl)
  · have h := xp_f hc h
    refine lv_aload_n hx hb dd_Model_exportRow_158 rfl (lv_at hl 1 rfl) ?_
    refine lv_iload_n hx hb dd_Model_exportRow_159 rfl (lv_at hl 3 rfl) ?_
    obtain ⟨a18, u19, hq, h⟩ := xp_seq h
    refine xk_goesI (xr_V (As := [.int b2]) (rest := [.ref (ad 0)]) C hP hS (ct_Model_isNameAgain htr hok hq) kq_Model_475 0 11 rfl rfl ⟨rfl, rfl, Nat.le_of_ble_eq_true rfl, Nat.le_of_ble_eq_true rfl⟩ ⟨Nat.le_of_ble_eq_true rfl, Nat.le_of_ble_eq_true rfl⟩ hl.1 rfl rfl (Nat.le_of_ble_eq_true rfl) dd_Model_exportRow_160) hS (fun H locs hP hS => ?_)
    clear hq
    refine lv_if_eq (tgt := 170) hx hb dd_Model_exportRow_163 (by decide) (fun hc => ?_) (fun hc => ?_)
    · have h := xp_t hc h
      refine lv_iconst (v := 0) hx hb dd_Model_exportRow_170 (by decide) ?_
      exact wj_Model_exportRow_171 htr C hne hk14 h hP hS (lv_sub hl [1, 2, 3, 4] rfl)
    · have h := xp_f hc h
      exact wj_Model_exportRow_166 htr C hne hk14 h hP hS (lv_sub hl [1, 2, 3, 4] rfl)
set_option maxHeartbeats 4000000 in
set_option maxRecDepth 100000 in
theorem wj_Model_exportRow_14 {p : Program} {l : Launch} {e : Env} {s : State} {m : MethodId} {args : Array Value} {below : List Frame} {meth : Method} {c : Code} {D : va_G} {ad : Nat → Nat} {ca : Nat → ClassId} {ads : List Nat} {fu : Nat} (htr : l.stackTraces = false) (C : xk_C D kx_cl (kx_ty ca) (kw_m ad ca) ads "ModuleHouseModel" prog_14_method_52_code 6 none p e s m args meth c) (hne : c.exceptionTable.isEmpty = true) {u' : xk_St} {r : Unit} : ∀ {n : Nat} {b1 : Int32} {b2 : Int32} {u : xk_St} {H : Heap} {locs : List Loc} {ls : Array Slot} (h : jb_Model_exportRow_14 fu  n b1 b2 u = some (r, u')) (hP : va_P D kx_cl (kw_m ad ca u) H) (hS : va_S (xk_A ads s.heap.size) s.heap H locs) (hl : lv_has ls 6 [(0, .ref (ad 0)), (1, .int b1), (2, .int b2)]), W p l e rm_Model_exportRow s m args below meth c H locs 0 0 (xk_MQ below (xk_Qc D kx_cl (kw_m ad ca) ads (xo_v (.inl r)) u') args s (xk_A ads s.heap.size)) (F0 m 14 ls []) := by
  intro n
  have hx := C.1.1
  have hb := C.1.2.1
  have hok := C.2.2.1
  induction n with
  | zero =>
    intro _ _ u H locs ls h
    have h : none = some (r, u') := h
    cases h
  | succ n ih =>
    intro b1 b2 u H locs ls h hP hS hl
    unfold jb_Model_exportRow_14 at h
    obtain ⟨k14, ek14, h⟩ := xp_let h
    have hk14 : ∀ (c0 : Int32) (c1 : Int32) (u : xk_St) (H : Heap) (locs : List Loc) (ls : Array Slot), k14 c0 c1 u = some (r, u') → va_P D kx_cl (kw_m ad ca u) H → va_S (xk_A ads s.heap.size) s.heap H locs → lv_has ls 6 [(0, .ref (ad 0)), (1, .int c0), (2, .int c1)] → W p l e rm_Model_exportRow s m args below meth c H locs 0 0 (xk_MQ below (xk_Qc D kx_cl (kw_m ad ca) ads (xo_v (.inl r)) u') args s (xk_A ads s.heap.size)) (F0 m 14 ls []) := by
      intro c0 c1 u H locs ls h hP hS hl
      subst ek14
      exact ih h hP hS hl
    clear ih ek14
    refine lv_iload_n hx hb dd_Model_exportRow_14 rfl (lv_at hl 2 rfl) ?_
    refine lv_iload_n hx hb dd_Model_exportRow_15 rfl (lv_at hl 1 rfl) ?_
    refine lv_icmp_ge (tgt := 198) hx hb dd_Model_exportRow_16 (by decide) (fun hc => ?_) (fun hc => ?_)
    · have h := xp_t hc h
      obtain ⟨rfl, rfl⟩ := xp_r h
      exact xr_vret C hP hS dd_Model_exportRow_198
    · have h := xp_f hc h
      refine lv_aload_n hx hb dd_Model_exportRow_19 rfl (lv_at hl 0 rfl) ?_
      refine gf_m_Model_0_wrong C hP dd_Model_exportRow_20 ?_
      refine lv_if_ne (tgt := 198) hx hb dd_Model_exportRow_23 (by decide) (fun hc => ?_) (fun hc => ?_)
      · have h := xp_f hc h
        obtain ⟨rfl, rfl⟩ := xp_r h
        exact xr_vret C hP hS dd_Model_exportRow_198
      · have h := xp_t hc h
        refine lv_aload_n hx hb dd_Model_exportRow_26 rfl (lv_at hl 0 rfl) ?_
        refine gf_m_Model_0_nameMany C hP dd_Model_exportRow_27 ?_
        refine lv_iload_n hx hb dd_Model_exportRow_30 rfl (lv_at hl 2 rfl) ?_
        refine lv_aload_n hx hb dd_Model_exportRow_31 rfl (lv_at hl 0 rfl) ?_
        obtain ⟨a4, u5, hq, h⟩ := xp_seq h
        refine xk_goesL (xr_V (As := []) (rest := [.int b2, .ref (ad 19)]) C hP hS (ct_Model_number htr hok hq) kq_Model_295 0 11 rfl rfl ⟨rfl, rfl, Nat.le_of_ble_eq_true rfl, Nat.le_of_ble_eq_true rfl⟩ ⟨Nat.le_of_ble_eq_true rfl, Nat.le_of_ble_eq_true rfl⟩ hl.1 rfl rfl (Nat.le_of_ble_eq_true rfl) dd_Model_exportRow_32) hS (fun H locs hP hS => ?_)
        clear hq
        refine lv_l2i hx hb dd_Model_exportRow_35 rfl ?_
        obtain ⟨hi, h⟩ := xp_g h
        refine as_m_19 C hP hS hi dd_Model_exportRow_36 (fun H locs hP hS => ?_)
        obtain ⟨u6, eu6, h⟩ := xp_let h
        rw [← eu6] at hP
        refine lv_aload_n hx hb dd_Model_exportRow_37 rfl (lv_at hl 0 rfl) ?_
        refine gf_m_Model_0_nameAt C hP dd_Model_exportRow_38 ?_
        refine lv_iload_n hx hb dd_Model_exportRow_41 rfl (lv_at hl 2 rfl) ?_
        refine lv_aload_n hx hb dd_Model_exportRow_42 rfl (lv_at hl 0 rfl) ?_
        refine gf_m_Model_0_at C hP dd_Model_exportRow_43 ?_
        obtain ⟨hi, h⟩ := xp_g h
        refine as_m_18 C hP hS hi dd_Model_exportRow_46 (fun H locs hP hS => ?_)
        obtain ⟨u7, eu7, h⟩ := xp_let h
        rw [← eu7] at hP
        refine lv_aload_n hx hb dd_Model_exportRow_47 rfl (lv_at hl 0 rfl) ?_
        refine lv_dup hx hb dd_Model_exportRow_48 rfl ?_
        refine gf_m_Model_0_at C hP dd_Model_exportRow_49 ?_
        refine lv_aload_n hx hb dd_Model_exportRow_52 rfl (lv_at hl 0 rfl) ?_
        refine gf_m_Model_0_nameMany C hP dd_Model_exportRow_53 ?_
        refine lv_iload_n hx hb dd_Model_exportRow_56 rfl (lv_at hl 2 rfl) ?_
        obtain ⟨hi, h⟩ := xp_g h
        refine al_m_19 C hP hi dd_Model_exportRow_57 ?_
        refine lv_iadd hx hb dd_Model_exportRow_58 ?_
        refine pf_m_Model_0_at C hP hS dd_Model_exportRow_59 (fun H locs hP hS => ?_)
        obtain ⟨u8, eu8, h⟩ := xp_let h
        rw [← eu8] at hP
        refine lv_aload_n hx hb dd_Model_exportRow_62 rfl (lv_at hl 0 rfl) ?_
        refine gf_m_Model_0_exportKind C hP dd_Model_exportRow_63 ?_
        refine lv_iload_n hx hb dd_Model_exportRow_66 rfl (lv_at hl 2 rfl) ?_
        refine lv_aload_n hx hb dd_Model_exportRow_67 rfl (lv_at hl 0 rfl) ?_
        obtain ⟨a9, u10, hq, h⟩ := xp_seq h
        refine xk_goesI (xr_V (As := []) (rest := [.int b2, .ref (ad 20)]) C hP hS (ct_Model_one htr hok hq) kq_Model_178 0 11 rfl rfl ⟨rfl, rfl, Nat.le_of_ble_eq_true rfl, Nat.le_of_ble_eq_true rfl⟩ ⟨Nat.le_of_ble_eq_true rfl, Nat.le_of_ble_eq_true rfl⟩ hl.1 rfl rfl (Nat.le_of_ble_eq_true rfl) dd_Model_exportRow_68) hS (fun H locs hP hS => ?_)
        clear hq
        obtain ⟨hi, h⟩ := xp_g h
        refine as_m_20 C hP hS hi dd_Model_exportRow_71 (fun H locs hP hS => ?_)
        obtain ⟨u11, eu11, h⟩ := xp_let h
        rw [← eu11] at hP
        refine lv_aload_n hx hb dd_Model_exportRow_72 rfl (lv_at hl 0 rfl) ?_
        obtain ⟨a12, u13, hq, h⟩ := xp_seq h
        refine xk_goesL (xr_V (As := []) (rest := []) C hP hS (ct_Model_number htr hok hq) kq_Model_295 0 11 rfl rfl ⟨rfl, rfl, Nat.le_of_ble_eq_true rfl, Nat.le_of_ble_eq_true rfl⟩ ⟨Nat.le_of_ble_eq_true rfl, Nat.le_of_ble_eq_true rfl⟩ hl.1 rfl rfl (Nat.le_of_ble_eq_true rfl) dd_Model_exportRow_73) hS (fun H locs hP hS => ?_)
        clear hq
        refine lv_lstore_n (lv' := [(3, .long a12), (0, .ref (ad 0)), (1, .int b1), (2, .int b2)]) hx hb dd_Model_exportRow_76 rfl hl (by decide) rfl (fun ls hl => ?_)
        refine lv_aload_n hx hb dd_Model_exportRow_77 rfl (lv_at hl 1 rfl) ?_
        refine gf_m_Model_0_exportKind C hP dd_Model_exportRow_78 ?_
        refine lv_iload_n hx hb dd_Model_exportRow_81 rfl (lv_at hl 3 rfl) ?_
        obtain ⟨hi, h⟩ := xp_g h
        refine al_m_20 C hP hi dd_Model_exportRow_82 ?_
        refine lv_if_ne (tgt := 93) hx hb dd_Model_exportRow_83 (by decide) (fun hc => ?_) (fun hc => ?_)
        · have h := xp_f hc h
          refine lv_aload_n hx hb dd_Model_exportRow_93 rfl (lv_at hl 1 rfl) ?_
          refine gf_m_Model_0_exportKind C hP dd_Model_exportRow_94 ?_
          refine lv_iload_n hx hb dd_Model_exportRow_97 rfl (lv_at hl 3 rfl) ?_
          obtain ⟨hi, h⟩ := xp_g h
          refine al_m_20 C hP hi dd_Model_exportRow_98 ?_
          refine lv_iconst (v := 1) hx hb dd_Model_exportRow_99 (by decide) ?_
          refine lv_icmp_ne (tgt := 118) hx hb dd_Model_exportRow_100 (by decide) (fun hc => ?_) (fun hc => ?_)
          · have h := xp_f hc h
            refine lv_aload_n hx hb dd_Model_exportRow_118 rfl (lv_at hl 1 rfl) ?_
            refine gf_m_Model_0_exportKind C hP dd_Model_exportRow_119 ?_
            refine lv_iload_n hx hb dd_Model_exportRow_122 rfl (lv_at hl 3 rfl) ?_
            obtain ⟨hi, h⟩ := xp_g h
            refine al_m_20 C hP hi dd_Model_exportRow_123 ?_
            refine lv_iconst (v := 2) hx hb dd_Model_exportRow_124 (by decide) ?_
            refine lv_icmp_ne (tgt := 143) hx hb dd_Model_exportRow_125 (by decide) (fun hc => ?_) (fun hc => ?_)
            · have h := xp_f hc h
              refine lv_aload_n hx hb dd_Model_exportRow_143 rfl (lv_at hl 1 rfl) ?_
              refine gf_m_Model_0_globals C hP dd_Model_exportRow_144 ?_
              exact wj_Model_exportRow_147 htr C hne hk14 h hP hS (lv_sub hl [1, 2, 3, 0] rfl)
            · have h := xp_t hc h
              refine lv_aload_n hx hb dd_Model_exportRow_128 rfl (lv_at hl 1 rfl) ?_
              refine gf_m_Model_0_hasMemory C hP dd_Model_exportRow_129 ?_
              refine lv_if_eq (tgt := 139) hx hb dd_Model_exportRow_132 (by decide) (fun hc => ?_) (fun hc => ?_)
              · have h := xp_t hc h
                refine lv_iconst (v := 0) hx hb dd_Model_exportRow_139 (by decide) ?_
                refine lv_goto (tgt := 147) hx hb dd_Model_exportRow_140 (by decide) ?_
                exact wj_Model_exportRow_147 htr C hne hk14 h hP hS (lv_sub hl [1, 2, 3, 0] rfl)
              · have h := xp_f hc h
                refine lv_iconst (v := 1) hx hb dd_Model_exportRow_135 (by decide) ?_
                refine lv_goto (tgt := 147) hx hb dd_Model_exportRow_136 (by decide) ?_
                exact wj_Model_exportRow_147 htr C hne hk14 h hP hS (lv_sub hl [1, 2, 3, 0] rfl)
          · have h := xp_t hc h
            refine lv_aload_n hx hb dd_Model_exportRow_103 rfl (lv_at hl 1 rfl) ?_
            refine gf_m_Model_0_hasTable C hP dd_Model_exportRow_104 ?_
            refine lv_if_eq (tgt := 114) hx hb dd_Model_exportRow_107 (by decide) (fun hc => ?_) (fun hc => ?_)
            · have h := xp_t hc h
              refine lv_iconst (v := 0) hx hb dd_Model_exportRow_114 (by decide) ?_
              refine lv_goto (tgt := 147) hx hb dd_Model_exportRow_115 (by decide) ?_
              exact wj_Model_exportRow_147 htr C hne hk14 h hP hS (lv_sub hl [1, 2, 3, 0] rfl)
            · have h := xp_f hc h
              refine lv_iconst (v := 1) hx hb dd_Model_exportRow_110 (by decide) ?_
              refine lv_goto (tgt := 147) hx hb dd_Model_exportRow_111 (by decide) ?_
              exact wj_Model_exportRow_147 htr C hne hk14 h hP hS (lv_sub hl [1, 2, 3, 0] rfl)
        · have h := xp_t hc h
          refine lv_aload_n hx hb dd_Model_exportRow_86 rfl (lv_at hl 1 rfl) ?_
          refine gf_m_Model_0_functions C hP dd_Model_exportRow_87 ?_
          refine lv_goto (tgt := 147) hx hb dd_Model_exportRow_90 (by decide) ?_
          exact wj_Model_exportRow_147 htr C hne hk14 h hP hS (lv_sub hl [1, 2, 3, 0] rfl)
set_option maxHeartbeats 4000000 in
set_option maxRecDepth 100000 in
theorem ct_Model_exportRow {l : Launch} {D : va_G} {ad : Nat → Nat} {ca : Nat → ClassId} {ads : List Nat} (htr : l.stackTraces = false) (hok : xk_ok (kw_m ad ca) ads) {fu : Nat} {u u' : xk_St} {r : Unit} (h : fm_Model_exportRow fu u = some (r, u')) :
    ∀ sz, xk_Met l ⟨"ModuleHouseModel", "exportRow", "()V"⟩ (Cond.code ⟨"ModuleHouseModel", "exportRow", "()V"⟩ prog_14_method_52_code 6 none :: xk_gd) rm_Model_exportRow (xk_Pc D kx_cl (kx_ty ca) (kw_m ad ca) ads xk_F sz [.ref (ad 0)] u) (xk_Qc D kx_cl (kw_m ad ca) ads (xo_v (.inl r)) u') (xk_A ads sz) := by
  unfold fm_Model_exportRow at h
  refine xk_con (by decide) htr hok (Nat.le_of_ble_eq_true rfl) (fun p e s m below meth c ls C hne hl hP => ?_)
  have hx := C.1.1
  have hb := C.1.2.1
  have hS : va_S (xk_A ads s.heap.size) s.heap s.heap [] := va_S.rf
  have hl : lv_has ls 6 [(0, .ref (ad 0))] := hl
  refine lv_aload_n hx hb dd_Model_exportRow_0 rfl (lv_at hl 0 rfl) ?_
  refine lv_iconst (v := 0) hx hb dd_Model_exportRow_1 (by decide) ?_
  refine pf_m_Model_0_exports C hP hS dd_Model_exportRow_2 (fun H locs hP hS => ?_)
  obtain ⟨u1, eu1, h⟩ := xp_let h
  rw [← eu1] at hP
  refine lv_aload_n hx hb dd_Model_exportRow_5 rfl (lv_at hl 0 rfl) ?_
  refine lv_bipush (v := 7) hx hb dd_Model_exportRow_6 (by decide) ?_
  obtain ⟨a2, u3, hq, h⟩ := xp_seq h
  refine xk_goesI (xr_V (As := [.int (7 : Int32)]) (rest := []) C hP hS (ct_Model_rowOf htr hok hq) kq_Model_417 0 11 rfl rfl ⟨rfl, rfl, Nat.le_of_ble_eq_true rfl, Nat.le_of_ble_eq_true rfl⟩ ⟨Nat.le_of_ble_eq_true rfl, Nat.le_of_ble_eq_true rfl⟩ hl.1 rfl rfl (Nat.le_of_ble_eq_true rfl) dd_Model_exportRow_8) hS (fun H locs hP hS => ?_)
  clear hq
  refine lv_istore_n (lv' := [(1, .int a2), (0, .ref (ad 0))]) hx hb dd_Model_exportRow_11 rfl hl (by decide) rfl (fun ls hl => ?_)
  refine lv_iconst (v := 0) hx hb dd_Model_exportRow_12 (by decide) ?_
  refine lv_istore_n (lv' := [(2, .int (0 : Int32)), (1, .int a2), (0, .ref (ad 0))]) hx hb dd_Model_exportRow_13 rfl hl (by decide) rfl (fun ls hl => ?_)
  exact wj_Model_exportRow_14 htr C hne h hP hS (lv_sub hl [2, 1, 0] rfl)
