abbrev rm_Types_fits : Room := { frames := 1, cells := 1, slots := 6, locals := 0 }
noncomputable def fm_Types_fits (x0 : Int32) (x1 : Int32) (u : xk_St) : Option (Int32 × xk_St) :=
  if x0 = x1 then (some ((1 : Int32), u)) else (if x0 = (0 : Int32) then (some ((1 : Int32), u)) else (if x0 < (16 : Int32) then (some ((0 : Int32), u)) else (if x1 < (16 : Int32) then (some ((0 : Int32), u)) else (if (x0 &&& (1 : Int32)) ≤ (x1 &&& (1 : Int32)) then ((xs_let ((x0 - (16 : Int32)) >>> ((1 : Int32) &&& 31)) fun a1 => xs_let ((x1 - (16 : Int32)) >>> ((1 : Int32) &&& 31)) fun a2 => if a1 = a2 then (some ((1 : Int32), u)) else (if a2 = (0 : Int32) then (some ((1 : Int32), u)) else (if a1 = (2 : Int32) then (some ((1 : Int32), u)) else (if a1 < (3 : Int32) then (some ((0 : Int32), u)) else (if a2 < (3 : Int32) then (some ((0 : Int32), u)) else ((if (a1 - (3 : Int32)) < 0 ∨ 65 ≤ (a1 - (3 : Int32)).toNatClampNeg then none else if (a2 - (3 : Int32)) < 0 ∨ 65 ≤ (a2 - (3 : Int32)).toNatClampNeg then none else if (u.2.2.1 5 (a1 - (3 : Int32)).toNatClampNeg) = (u.2.2.1 5 (a2 - (3 : Int32)).toNatClampNeg) then (some ((1 : Int32), u)) else (some ((0 : Int32), u)))))))))) else (some ((0 : Int32), u))))))
set_option maxHeartbeats 4000000 in
set_option maxRecDepth 100000 in
theorem ct_Types_fits {l : Launch} {D : va_G} {ad : Nat → Nat} {ca : Nat → ClassId} {ads : List Nat} (htr : l.stackTraces = false) (hok : xk_ok (kw_h ad ca) ads) {x0 : Int32} {x1 : Int32} {u u' : xk_St} {r : Int32} (h : fm_Types_fits x0 x1 u = some (r, u')) :
    ∀ sz, xk_Met l ⟨"ModuleHouse$Types", "fits", "(II)Z"⟩ (Cond.code ⟨"ModuleHouse$Types", "fits", "(II)Z"⟩ prog_11_method_22_code 5 (some .boolean) :: xk_gd) rm_Types_fits (xk_Pc D kx_cl (kx_ty ca) (kw_h ad ca) ads xk_F sz [.ref (ad 6), .int x0, .int x1] u) (xk_Qc D kx_cl (kw_h ad ca) ads (xo_i (.inl r)) u') (xk_A ads sz) := by
  unfold fm_Types_fits at h
  refine xk_con (by decide) htr hok (Nat.le_of_ble_eq_true rfl) (fun p e s m below meth c ls C hne hl hP => ?_)
  have hx := C.1.1
  have hb := C.1.2.1
  have hS : va_S (xk_A ads s.heap.size) s.heap s.heap [] := va_S.rf
  have hl : lv_has ls 5 [(0, .ref (ad 6)), (1, .int x0), (2, .int x1)] := hl
  refine lv_iload_n hx hb dd_Types_fits_0 rfl (lv_at hl 1 rfl) ?_
  refine lv_iload_n hx hb dd_Types_fits_1 rfl (lv_at hl 2 rfl) ?_
  refine lv_icmp_eq (tgt := 9) hx hb dd_Types_fits_2 (by decide) (fun hc => ?_) (fun hc => ?_)
  · have h := xp_t hc h
    refine lv_iconst (v := 1) hx hb dd_Types_fits_9 (by decide) ?_
    obtain ⟨rfl, rfl⟩ := xp_r h
    exact xr_zret C hP hS (by decide) dd_Types_fits_10
  · have h := xp_f hc h
    refine lv_iload_n hx hb dd_Types_fits_5 rfl (lv_at hl 1 rfl) ?_
    refine lv_if_ne (tgt := 11) hx hb dd_Types_fits_6 (by decide) (fun hc => ?_) (fun hc => ?_)
    · have h := xp_f hc h
      refine lv_iload_n hx hb dd_Types_fits_11 rfl (lv_at hl 1 rfl) ?_
      refine lv_bipush (v := 16) hx hb dd_Types_fits_12 (by decide) ?_
      refine lv_icmp_lt (tgt := 32) hx hb dd_Types_fits_14 (by decide) (fun hc => ?_) (fun hc => ?_)
      · have h := xp_t hc h
        refine lv_iconst (v := 0) hx hb dd_Types_fits_32 (by decide) ?_
        obtain ⟨rfl, rfl⟩ := xp_r h
        exact xr_zret C hP hS (by decide) dd_Types_fits_33
      · have h := xp_f hc h
        refine lv_iload_n hx hb dd_Types_fits_17 rfl (lv_at hl 2 rfl) ?_
        refine lv_bipush (v := 16) hx hb dd_Types_fits_18 (by decide) ?_
        refine lv_icmp_lt (tgt := 32) hx hb dd_Types_fits_20 (by decide) (fun hc => ?_) (fun hc => ?_)
        · have h := xp_t hc h
          refine lv_iconst (v := 0) hx hb dd_Types_fits_32 (by decide) ?_
          obtain ⟨rfl, rfl⟩ := xp_r h
          exact xr_zret C hP hS (by decide) dd_Types_fits_33
        · have h := xp_f hc h
          refine lv_iload_n hx hb dd_Types_fits_23 rfl (lv_at hl 1 rfl) ?_
          refine lv_iconst (v := 1) hx hb dd_Types_fits_24 (by decide) ?_
          refine lv_iand hx hb dd_Types_fits_25 ?_
          refine lv_iload_n hx hb dd_Types_fits_26 rfl (lv_at hl 2 rfl) ?_
          refine lv_iconst (v := 1) hx hb dd_Types_fits_27 (by decide) ?_
          refine lv_iand hx hb dd_Types_fits_28 ?_
          refine lv_icmp_le (tgt := 34) hx hb dd_Types_fits_29 (by decide) (fun hc => ?_) (fun hc => ?_)
          · have h := xp_t hc h
            refine lv_iload_n hx hb dd_Types_fits_34 rfl (lv_at hl 1 rfl) ?_
            refine lv_bipush (v := 16) hx hb dd_Types_fits_35 (by decide) ?_
            refine lv_isub hx hb dd_Types_fits_37 ?_
            refine lv_iconst (v := 1) hx hb dd_Types_fits_38 (by decide) ?_
            refine lv_ishr hx hb dd_Types_fits_39 ?_
            obtain ⟨a1, ea1, h⟩ := xp_let h
            refine xr_nami ea1 ?_
            refine lv_istore_n (lv' := [(3, .int a1), (0, .ref (ad 6)), (1, .int x0), (2, .int x1)]) hx hb dd_Types_fits_40 rfl hl (by decide) rfl (fun ls hl => ?_)
            refine lv_iload_n hx hb dd_Types_fits_41 rfl (lv_at hl 3 rfl) ?_
            refine lv_bipush (v := 16) hx hb dd_Types_fits_42 (by decide) ?_
            refine lv_isub hx hb dd_Types_fits_44 ?_
            refine lv_iconst (v := 1) hx hb dd_Types_fits_45 (by decide) ?_
            refine lv_ishr hx hb dd_Types_fits_46 ?_
            obtain ⟨a2, ea2, h⟩ := xp_let h
            refine xr_nami ea2 ?_
            refine lv_istore (lv' := [(4, .int a2), (3, .int a1), (0, .ref (ad 6)), (1, .int x0), (2, .int x1)]) hx hb dd_Types_fits_47 hl (by decide) rfl (fun ls hl => ?_)
            refine lv_iload_n hx hb dd_Types_fits_49 rfl (lv_at hl 1 rfl) ?_
            refine lv_iload hx hb dd_Types_fits_50 (lv_at hl 0 rfl) ?_
            refine lv_icmp_eq (tgt := 65) hx hb dd_Types_fits_52 (by decide) (fun hc => ?_) (fun hc => ?_)
            · have h := xp_t hc h
              refine lv_iconst (v := 1) hx hb dd_Types_fits_65 (by decide) ?_
              obtain ⟨rfl, rfl⟩ := xp_r h
              exact xr_zret C hP hS (by decide) dd_Types_fits_66
            · have h := xp_f hc h
              refine lv_iload hx hb dd_Types_fits_55 (lv_at hl 0 rfl) ?_
              refine lv_if_eq (tgt := 65) hx hb dd_Types_fits_57 (by decide) (fun hc => ?_) (fun hc => ?_)
              · have h := xp_t hc h
                refine lv_iconst (v := 1) hx hb dd_Types_fits_65 (by decide) ?_
                obtain ⟨rfl, rfl⟩ := xp_r h
                exact xr_zret C hP hS (by decide) dd_Types_fits_66
              · have h := xp_f hc h
                refine lv_iload_n hx hb dd_Types_fits_60 rfl (lv_at hl 1 rfl) ?_
                refine lv_iconst (v := 2) hx hb dd_Types_fits_61 (by decide) ?_
                refine lv_icmp_ne (tgt := 67) hx hb dd_Types_fits_62 (by decide) (fun hc => ?_) (fun hc => ?_)
                · have h := xp_f hc h
                  refine lv_iload_n hx hb dd_Types_fits_67 rfl (lv_at hl 1 rfl) ?_
                  refine lv_iconst (v := 3) hx hb dd_Types_fits_68 (by decide) ?_
                  refine lv_icmp_lt (tgt := 102) hx hb dd_Types_fits_69 (by decide) (fun hc => ?_) (fun hc => ?_)
                  · have h := xp_t hc h
                    refine lv_iconst (v := 0) hx hb dd_Types_fits_102 (by decide) ?_
                    obtain ⟨rfl, rfl⟩ := xp_r h
                    exact xr_zret C hP hS (by decide) dd_Types_fits_103
                  · have h := xp_f hc h
                    refine lv_iload hx hb dd_Types_fits_72 (lv_at hl 0 rfl) ?_
                    refine lv_iconst (v := 3) hx hb dd_Types_fits_74 (by decide) ?_
                    refine lv_icmp_lt (tgt := 102) hx hb dd_Types_fits_75 (by decide) (fun hc => ?_) (fun hc => ?_)
                    · have h := xp_t hc h
                      refine lv_iconst (v := 0) hx hb dd_Types_fits_102 (by decide) ?_
                      obtain ⟨rfl, rfl⟩ := xp_r h
                      exact xr_zret C hP hS (by decide) dd_Types_fits_103
                    · have h := xp_f hc h
                      refine lv_aload_n hx hb dd_Types_fits_78 rfl (lv_at hl 2 rfl) ?_
                      refine gf_h_Types_6_like C hP dd_Types_fits_79 ?_
                      refine lv_iload_n hx hb dd_Types_fits_82 rfl (lv_at hl 1 rfl) ?_
                      refine lv_iconst (v := 3) hx hb dd_Types_fits_83 (by decide) ?_
                      refine lv_isub hx hb dd_Types_fits_84 ?_
                      obtain ⟨hi, h⟩ := xp_g h
                      refine al_h_10 C hP hi dd_Types_fits_85 ?_
                      refine lv_aload_n hx hb dd_Types_fits_86 rfl (lv_at hl 2 rfl) ?_
                      refine gf_h_Types_6_like C hP dd_Types_fits_87 ?_
                      refine lv_iload hx hb dd_Types_fits_90 (lv_at hl 0 rfl) ?_
                      refine lv_iconst (v := 3) hx hb dd_Types_fits_92 (by decide) ?_
                      refine lv_isub hx hb dd_Types_fits_93 ?_
                      obtain ⟨hi, h⟩ := xp_g h
                      refine al_h_10 C hP hi dd_Types_fits_94 ?_
                      refine lv_icmp_ne (tgt := 102) hx hb dd_Types_fits_95 (by decide) (fun hc => ?_) (fun hc => ?_)
                      · have h := xp_f hc h
                        refine lv_iconst (v := 0) hx hb dd_Types_fits_102 (by decide) ?_
                        obtain ⟨rfl, rfl⟩ := xp_r h
                        exact xr_zret C hP hS (by decide) dd_Types_fits_103
                      · have h := xp_t hc h
                        refine lv_iconst (v := 1) hx hb dd_Types_fits_98 (by decide) ?_
                        refine lv_goto (tgt := 103) hx hb dd_Types_fits_99 (by decide) ?_
                        obtain ⟨rfl, rfl⟩ := xp_r h
                        exact xr_zret C hP hS (by decide) dd_Types_fits_103
                · have h := xp_t hc h
                  refine lv_iconst (v := 1) hx hb dd_Types_fits_65 (by decide) ?_
                  obtain ⟨rfl, rfl⟩ := xp_r h
                  exact xr_zret C hP hS (by decide) dd_Types_fits_66
          · have h := xp_f hc h
            refine lv_iconst (v := 0) hx hb dd_Types_fits_32 (by decide) ?_
            obtain ⟨rfl, rfl⟩ := xp_r h
            exact xr_zret C hP hS (by decide) dd_Types_fits_33
    · have h := xp_t hc h
      refine lv_iconst (v := 1) hx hb dd_Types_fits_9 (by decide) ?_
      obtain ⟨rfl, rfl⟩ := xp_r h
      exact xr_zret C hP hS (by decide) dd_Types_fits_10
abbrev rm_Checker_checkGlobals : Room := { frames := 7, cells := 1, slots := 6, locals := 120 }
noncomputable def jb_Checker_checkGlobals_55 (fu : Nat) (k10 : Int32 → xk_St → Option ((Unit ⊕ Nat) × xk_St)) (b2 : Int32) (s0 : Int32) (u : xk_St) : Option ((Unit ⊕ Nat) × xk_St) :=
  (xs_try (fm_Checker_need s0 u) fun _ u3 => if b2 < 0 ∨ 65 ≤ b2.toNatClampNeg then none else if b2 < 0 ∨ 65 ≤ b2.toNatClampNeg then none else xs_seq (fm_Types_fits (u3.2.2.1 23 b2.toNatClampNeg) (u3.2.2.1 21 b2.toNatClampNeg) u3) fun a4 u5 => xs_try (fm_Checker_need a4 u5) fun _ u6 => xs_let (b2 + (1 : Int32)) fun a7 => k10 a7 u6)
noncomputable def jb_Checker_checkGlobals_54 (fu : Nat) (k10 : Int32 → xk_St → Option ((Unit ⊕ Nat) × xk_St)) (b2 : Int32) (u : xk_St) : Option ((Unit ⊕ Nat) × xk_St) :=
  jb_Checker_checkGlobals_55 fu k10 b2 (0 : Int32) u
noncomputable def jb_Checker_checkGlobals_10 (fu : Nat) : Nat → Int32 → xk_St → Option ((Unit ⊕ Nat) × xk_St)
  | 0 => fun _ _ => none
  | n + 1 => fun b2 u =>
    xs_let (jb_Checker_checkGlobals_10 fu  n) fun k10 =>
    if (u.1 13) ≤ b2 then (some (.inl (()), u)) else ((if b2 < 0 ∨ 65 ≤ b2.toNatClampNeg then none else xs_seq (fm_Types_knows (u.2.2.1 21 b2.toNatClampNeg) u) fun a1 u2 => if a1 = (0 : Int32) then (jb_Checker_checkGlobals_54 fu k10 b2 u2) else ((if b2 < 0 ∨ 65 ≤ b2.toNatClampNeg then none else xs_seq (fm_Types_knows (u2.2.2.1 23 b2.toNatClampNeg) u2) fun a8 u9 => if a8 = (0 : Int32) then (jb_Checker_checkGlobals_54 fu k10 b2 u9) else (jb_Checker_checkGlobals_55 fu k10 b2 (1 : Int32) u9)))))
noncomputable def fm_Checker_checkGlobals (fu : Nat) (u : xk_St) : Option ((Unit ⊕ Nat) × xk_St) :=
  jb_Checker_checkGlobals_10 fu fu (0 : Int32) u
set_option maxHeartbeats 4000000 in
set_option maxRecDepth 100000 in
theorem wj_Checker_checkGlobals_55 {p : Program} {l : Launch} {e : Env} {s : State} {m : MethodId} {args : Array Value} {below : List Frame} {meth : Method} {c : Code} {D : va_G} {ad : Nat → Nat} {ca : Nat → ClassId} {ads : List Nat} {fu : Nat} (htr : l.stackTraces = false) (C : xk_C D kx_cl (kx_ty ca) (kw_h ad ca) ads "ModuleHouse$Checker" prog_2_method_8_code 3 none p e s m args meth c) (hne : c.exceptionTable.isEmpty = true) {u' : xk_St} {r : (Unit ⊕ Nat)} {k10 : Int32 → xk_St → Option ((Unit ⊕ Nat) × xk_St)} (hk10 : ∀ (c0 : Int32) (u : xk_St) (H : Heap) (locs : List Loc) (ls : Array Slot), k10 c0 u = some (r, u') → va_P D kx_cl (kw_h ad ca u) H → va_S (xk_A ads s.heap.size) s.heap H locs → lv_has ls 3 [(0, .ref (ad 55)), (1, .ref (ad 34)), (2, .int c0)] → W p l e rm_Checker_checkGlobals s m args below meth c H locs 0 0 (xk_MQ below (xk_Qc D kx_cl (kw_h ad ca) ads (xo_v r) u') args s (xk_A ads s.heap.size)) (F0 m 10 ls [])) {b2 : Int32} {s0 : Int32} {u : xk_St} {H : Heap} {locs : List Loc} {ls : Array Slot} (h : jb_Checker_checkGlobals_55 fu k10 b2 s0 u = some (r, u')) (hP : va_P D kx_cl (kw_h ad ca u) H) (hS : va_S (xk_A ads s.heap.size) s.heap H locs) (hl : lv_has ls 3 [(0, .ref (ad 55)), (1, .ref (ad 34)), (2, .int b2)]) : W p l e rm_Checker_checkGlobals s m args below meth c H locs 0 0 (xk_MQ below (xk_Qc D kx_cl (kw_h ad ca) ads (xo_v r) u') args s (xk_A ads s.heap.size)) (F0 m 55 ls [.int s0]) := by
  have hx := C.1.1
  have hb := C.1.2.1
  have hok := C.2.2.1
  unfold jb_Checker_checkGlobals_55 at h
  rcases xp_try h with ⟨rx, u3, hq, h⟩ | ⟨kx, ux, hq, h⟩
  rotate_left
  · obtain ⟨rfl, rfl⟩ := xp_q h
    exact xk_up (xr_S (As := [.int s0]) (rest := []) C hP hS (ct_Checker_need htr hok hq) kq_Checker_60 ⟨rfl, rfl, Nat.le_of_ble_eq_true rfl, Nat.le_of_ble_eq_true rfl⟩ ⟨Nat.le_of_ble_eq_true rfl, Nat.le_of_ble_eq_true rfl⟩ hl.1 rfl rfl (Nat.le_of_ble_eq_true rfl) dd_Checker_checkGlobals_55) hS hne C.2.2.2.2.2.2.1
  refine xk_goesV (xr_S (As := [.int s0]) (rest := []) C hP hS (ct_Checker_need htr hok hq) kq_Checker_60 ⟨rfl, rfl, Nat.le_of_ble_eq_true rfl, Nat.le_of_ble_eq_true rfl⟩ ⟨Nat.le_of_ble_eq_true rfl, Nat.le_of_ble_eq_true rfl⟩ hl.1 rfl rfl (Nat.le_of_ble_eq_true rfl) dd_Checker_checkGlobals_55) hS (fun H locs hP hS => ?_)
  clear hq
  refine lv_aload_n hx hb dd_Checker_checkGlobals_58 rfl (lv_at hl 0 rfl) ?_
  refine gf_h_Checker_55_types C hP dd_Checker_checkGlobals_59 ?_
  refine lv_aload_n hx hb dd_Checker_checkGlobals_62 rfl (lv_at hl 1 rfl) ?_
  refine gf_h_Checker_34_second C hP dd_Checker_checkGlobals_63 ?_
  refine lv_iload_n hx hb dd_Checker_checkGlobals_66 rfl (lv_at hl 2 rfl) ?_
  obtain ⟨hi, h⟩ := xp_g h
  refine al_h_37 C hP hi dd_Checker_checkGlobals_67 ?_
  refine lv_aload_n hx hb dd_Checker_checkGlobals_68 rfl (lv_at hl 1 rfl) ?_
  refine gf_h_Checker_34_kind C hP dd_Checker_checkGlobals_69 ?_
  refine lv_iload_n hx hb dd_Checker_checkGlobals_72 rfl (lv_at hl 2 rfl) ?_
  obtain ⟨hi, h⟩ := xp_g h
  refine al_h_35 C hP hi dd_Checker_checkGlobals_73 ?_
  obtain ⟨a4, u5, hq, h⟩ := xp_seq h
  refine xk_goesI (xr_V (As := [.int (u3.2.2.1 23 b2.toNatClampNeg), .int (u3.2.2.1 21 b2.toNatClampNeg)]) (rest := []) C hP hS (ct_Types_fits htr hok hq) kq_Checker_148 6 9 rfl rfl ⟨rfl, rfl, Nat.le_of_ble_eq_true rfl, Nat.le_of_ble_eq_true rfl⟩ ⟨Nat.le_of_ble_eq_true rfl, Nat.le_of_ble_eq_true rfl⟩ hl.1 rfl rfl (Nat.le_of_ble_eq_true rfl) dd_Checker_checkGlobals_74) hS (fun H locs hP hS => ?_)
  clear hq
  rcases xp_try h with ⟨rx, u6, hq, h⟩ | ⟨kx, ux, hq, h⟩
  rotate_left
  · obtain ⟨rfl, rfl⟩ := xp_q h
    exact xk_up (xr_S (As := [.int a4]) (rest := []) C hP hS (ct_Checker_need htr hok hq) kq_Checker_60 ⟨rfl, rfl, Nat.le_of_ble_eq_true rfl, Nat.le_of_ble_eq_true rfl⟩ ⟨Nat.le_of_ble_eq_true rfl, Nat.le_of_ble_eq_true rfl⟩ hl.1 rfl rfl (Nat.le_of_ble_eq_true rfl) dd_Checker_checkGlobals_77) hS hne C.2.2.2.2.2.2.1
  refine xk_goesV (xr_S (As := [.int a4]) (rest := []) C hP hS (ct_Checker_need htr hok hq) kq_Checker_60 ⟨rfl, rfl, Nat.le_of_ble_eq_true rfl, Nat.le_of_ble_eq_true rfl⟩ ⟨Nat.le_of_ble_eq_true rfl, Nat.le_of_ble_eq_true rfl⟩ hl.1 rfl rfl (Nat.le_of_ble_eq_true rfl) dd_Checker_checkGlobals_77) hS (fun H locs hP hS => ?_)
  clear hq
  obtain ⟨a7, ea7, h⟩ := xp_let h
  refine lv_iinc (v := a7) (lv' := [(2, .int a7), (0, .ref (ad 55)), (1, .ref (ad 34))]) hx hb dd_Checker_checkGlobals_80 hl (k := 2) rfl (by rw [ea7]; first | rfl | decide) (by decide) rfl (fun ls hl => ?_)
  refine lv_goto (tgt := 10) hx hb dd_Checker_checkGlobals_83 (by decide) ?_
  exact hk10 a7 u6 _ _ _ h hP hS (lv_sub hl [1, 2, 0] rfl)
set_option maxHeartbeats 4000000 in
set_option maxRecDepth 100000 in
theorem wj_Checker_checkGlobals_54 {p : Program} {l : Launch} {e : Env} {s : State} {m : MethodId} {args : Array Value} {below : List Frame} {meth : Method} {c : Code} {D : va_G} {ad : Nat → Nat} {ca : Nat → ClassId} {ads : List Nat} {fu : Nat} (htr : l.stackTraces = false) (C : xk_C D kx_cl (kx_ty ca) (kw_h ad ca) ads "ModuleHouse$Checker" prog_2_method_8_code 3 none p e s m args meth c) (hne : c.exceptionTable.isEmpty = true) {u' : xk_St} {r : (Unit ⊕ Nat)} {k10 : Int32 → xk_St → Option ((Unit ⊕ Nat) × xk_St)} (hk10 : ∀ (c0 : Int32) (u : xk_St) (H : Heap) (locs : List Loc) (ls : Array Slot), k10 c0 u = some (r, u') → va_P D kx_cl (kw_h ad ca u) H → va_S (xk_A ads s.heap.size) s.heap H locs → lv_has ls 3 [(0, .ref (ad 55)), (1, .ref (ad 34)), (2, .int c0)] → W p l e rm_Checker_checkGlobals s m args below meth c H locs 0 0 (xk_MQ below (xk_Qc D kx_cl (kw_h ad ca) ads (xo_v r) u') args s (xk_A ads s.heap.size)) (F0 m 10 ls [])) {b2 : Int32} {u : xk_St} {H : Heap} {locs : List Loc} {ls : Array Slot} (h : jb_Checker_checkGlobals_54 fu k10 b2 u = some (r, u')) (hP : va_P D kx_cl (kw_h ad ca u) H) (hS : va_S (xk_A ads s.heap.size) s.heap H locs) (hl : lv_has ls 3 [(0, .ref (ad 55)), (1, .ref (ad 34)), (2, .int b2)]) : W p l e rm_Checker_checkGlobals s m args below meth c H locs 0 0 (xk_MQ below (xk_Qc D kx_cl (kw_h ad ca) ads (xo_v r) u') args s (xk_A ads s.heap.size)) (F0 m 54 ls []) := by
  have hx := C.1.1
  have hb := C.1.2.1
  have hok := C.2.2.1
  unfold jb_Checker_checkGlobals_54 at h
  refine lv_iconst (v := 0) hx hb dd_Checker_checkGlobals_54 (by decide) ?_
  exact wj_Checker_checkGlobals_55 htr C hne hk10 h hP hS (lv_sub hl [0, 1, 2] rfl)
set_option maxHeartbeats 4000000 in
set_option maxRecDepth 100000 in
theorem wj_Checker_checkGlobals_10 {p : Program} {l : Launch} {e : Env} {s : State} {m : MethodId} {args : Array Value} {below : List Frame} {meth : Method} {c : Code} {D : va_G} {ad : Nat → Nat} {ca : Nat → ClassId} {ads : List Nat} {fu : Nat} (htr : l.stackTraces = false) (C : xk_C D kx_cl (kx_ty ca) (kw_h ad ca) ads "ModuleHouse$Checker" prog_2_method_8_code 3 none p e s m args meth c) (hne : c.exceptionTable.isEmpty = true) {u' : xk_St} {r : (Unit ⊕ Nat)} : ∀ {n : Nat} {b2 : Int32} {u : xk_St} {H : Heap} {locs : List Loc} {ls : Array Slot} (h : jb_Checker_checkGlobals_10 fu  n b2 u = some (r, u')) (hP : va_P D kx_cl (kw_h ad ca u) H) (hS : va_S (xk_A ads s.heap.size) s.heap H locs) (hl : lv_has ls 3 [(0, .ref (ad 55)), (1, .ref (ad 34)), (2, .int b2)]), W p l e rm_Checker_checkGlobals s m args below meth c H locs 0 0 (xk_MQ below (xk_Qc D kx_cl (kw_h ad ca) ads (xo_v r) u') args s (xk_A ads s.heap.size)) (F0 m 10 ls []) := by
  intro n
  have hx := C.1.1
  have hb := C.1.2.1
  have hok := C.2.2.1
  induction n with
  | zero =>
    intro _ u H locs ls h
    have h : none = some (r, u') := h
    cases h
  | succ n ih =>
    intro b2 u H locs ls h hP hS hl
    unfold jb_Checker_checkGlobals_10 at h
    obtain ⟨k10, ek10, h⟩ := xp_let h
    have hk10 : ∀ (c0 : Int32) (u : xk_St) (H : Heap) (locs : List Loc) (ls : Array Slot), k10 c0 u = some (r, u') → va_P D kx_cl (kw_h ad ca u) H → va_S (xk_A ads s.heap.size) s.heap H locs → lv_has ls 3 [(0, .ref (ad 55)), (1, .ref (ad 34)), (2, .int c0)] → W p l e rm_Checker_checkGlobals s m args below meth c H locs 0 0 (xk_MQ below (xk_Qc D kx_cl (kw_h ad ca) ads (xo_v r) u') args s (xk_A ads s.heap.size)) (F0 m 10 ls []) := by
      intro c0 u H locs ls h hP hS hl
      subst ek10
      exact ih h hP hS hl
    clear ih ek10
    refine lv_iload_n hx hb dd_Checker_checkGlobals_10 rfl (lv_at hl 2 rfl) ?_
    refine lv_aload_n hx hb dd_Checker_checkGlobals_11 rfl (lv_at hl 1 rfl) ?_
    refine gf_h_Checker_34_count C hP dd_Checker_checkGlobals_12 ?_
    refine lv_icmp_ge (tgt := 86) hx hb dd_Checker_checkGlobals_15 (by decide) (fun hc => ?_) (fun hc => ?_)
    · have h := xp_t hc h
      obtain ⟨rfl, rfl⟩ := xp_r h
      exact xr_vret C hP hS dd_Checker_checkGlobals_86
    · have h := xp_f hc h
      refine lv_aload_n hx hb dd_Checker_checkGlobals_18 rfl (lv_at hl 0 rfl) ?_
      refine gf_h_Checker_55_types C hP dd_Checker_checkGlobals_19 ?_
      refine lv_aload_n hx hb dd_Checker_checkGlobals_22 rfl (lv_at hl 1 rfl) ?_
      refine gf_h_Checker_34_kind C hP dd_Checker_checkGlobals_23 ?_
      refine lv_iload_n hx hb dd_Checker_checkGlobals_26 rfl (lv_at hl 2 rfl) ?_
      obtain ⟨hi, h⟩ := xp_g h
      refine al_h_35 C hP hi dd_Checker_checkGlobals_27 ?_
      obtain ⟨a1, u2, hq, h⟩ := xp_seq h
      refine xk_goesI (xr_V (As := [.int (u.2.2.1 21 b2.toNatClampNeg)]) (rest := []) C hP hS (ct_Types_knows htr hok hq) kq_Checker_121 6 9 rfl rfl ⟨rfl, rfl, Nat.le_of_ble_eq_true rfl, Nat.le_of_ble_eq_true rfl⟩ ⟨Nat.le_of_ble_eq_true rfl, Nat.le_of_ble_eq_true rfl⟩ hl.1 rfl rfl (Nat.le_of_ble_eq_true rfl) dd_Checker_checkGlobals_28) hS (fun H locs hP hS => ?_)
      clear hq
      refine lv_if_eq (tgt := 54) hx hb dd_Checker_checkGlobals_31 (by decide) (fun hc => ?_) (fun hc => ?_)
      · have h := xp_t hc h
        exact wj_Checker_checkGlobals_54 htr C hne hk10 h hP hS (lv_sub hl [0, 1, 2] rfl)
      · have h := xp_f hc h
        refine lv_aload_n hx hb dd_Checker_checkGlobals_34 rfl (lv_at hl 0 rfl) ?_
        refine gf_h_Checker_55_types C hP dd_Checker_checkGlobals_35 ?_
        refine lv_aload_n hx hb dd_Checker_checkGlobals_38 rfl (lv_at hl 1 rfl) ?_
        refine gf_h_Checker_34_second C hP dd_Checker_checkGlobals_39 ?_
        refine lv_iload_n hx hb dd_Checker_checkGlobals_42 rfl (lv_at hl 2 rfl) ?_
        obtain ⟨hi, h⟩ := xp_g h
        refine al_h_37 C hP hi dd_Checker_checkGlobals_43 ?_
        obtain ⟨a8, u9, hq, h⟩ := xp_seq h
        refine xk_goesI (xr_V (As := [.int (u2.2.2.1 23 b2.toNatClampNeg)]) (rest := []) C hP hS (ct_Types_knows htr hok hq) kq_Checker_121 6 9 rfl rfl ⟨rfl, rfl, Nat.le_of_ble_eq_true rfl, Nat.le_of_ble_eq_true rfl⟩ ⟨Nat.le_of_ble_eq_true rfl, Nat.le_of_ble_eq_true rfl⟩ hl.1 rfl rfl (Nat.le_of_ble_eq_true rfl) dd_Checker_checkGlobals_44) hS (fun H locs hP hS => ?_)
        clear hq
        refine lv_if_eq (tgt := 54) hx hb dd_Checker_checkGlobals_47 (by decide) (fun hc => ?_) (fun hc => ?_)
        · have h := xp_t hc h
          exact wj_Checker_checkGlobals_54 htr C hne hk10 h hP hS (lv_sub hl [0, 1, 2] rfl)
        · have h := xp_f hc h
          refine lv_iconst (v := 1) hx hb dd_Checker_checkGlobals_50 (by decide) ?_
          refine lv_goto (tgt := 55) hx hb dd_Checker_checkGlobals_51 (by decide) ?_
          exact wj_Checker_checkGlobals_55 htr C hne hk10 h hP hS (lv_sub hl [0, 1, 2] rfl)
set_option maxHeartbeats 4000000 in
set_option maxRecDepth 100000 in
theorem ct_Checker_checkGlobals {l : Launch} {D : va_G} {ad : Nat → Nat} {ca : Nat → ClassId} {ads : List Nat} (htr : l.stackTraces = false) (hok : xk_ok (kw_h ad ca) ads) {fu : Nat} {u u' : xk_St} {r : (Unit ⊕ Nat)} (h : fm_Checker_checkGlobals fu u = some (r, u')) :
    ∀ sz, xk_Met l ⟨"ModuleHouse$Checker", "checkGlobals", "()V"⟩ (Cond.code ⟨"ModuleHouse$Checker", "checkGlobals", "()V"⟩ prog_2_method_8_code 3 none :: xk_gd) rm_Checker_checkGlobals (xk_Pc D kx_cl (kx_ty ca) (kw_h ad ca) ads xk_F sz [.ref (ad 55)] u) (xk_Qc D kx_cl (kw_h ad ca) ads (xo_v r) u') (xk_A ads sz) := by
  unfold fm_Checker_checkGlobals at h
  refine xk_con (by decide) htr hok (Nat.le_of_ble_eq_true rfl) (fun p e s m below meth c ls C hne hl hP => ?_)
  have hx := C.1.1
  have hb := C.1.2.1
  have hS : va_S (xk_A ads s.heap.size) s.heap s.heap [] := va_S.rf
  have hl : lv_has ls 3 [(0, .ref (ad 55))] := hl
  refine lv_aload_n hx hb dd_Checker_checkGlobals_0 rfl (lv_at hl 0 rfl) ?_
  refine gf_h_Checker_55_module C hP dd_Checker_checkGlobals_1 ?_
  refine gf_h_Checker_4_globals C hP dd_Checker_checkGlobals_4 ?_
  refine lv_astore_n (lv' := [(1, .ref (ad 34)), (0, .ref (ad 55))]) hx hb dd_Checker_checkGlobals_7 rfl hl (by decide) rfl (fun ls hl => ?_)
  refine lv_iconst (v := 0) hx hb dd_Checker_checkGlobals_8 (by decide) ?_
  refine lv_istore_n (lv' := [(2, .int (0 : Int32)), (1, .ref (ad 34)), (0, .ref (ad 55))]) hx hb dd_Checker_checkGlobals_9 rfl hl (by decide) rfl (fun ls hl => ?_)
  exact wj_Checker_checkGlobals_10 htr C hne h hP hS (lv_sub hl [2, 1, 0] rfl)
abbrev rm_Checker_sameName : Room := { frames := 1, cells := 1, slots := 6, locals := 0 }
noncomputable def jb_Checker_sameName_30 (fu : Nat) : Nat → Int32 → Int32 → Int32 → Int32 → xk_St → Option (Int32 × xk_St)
  | 0 => fun _ _ _ _ _ => none
  | n + 1 => fun b1 b3 b4 b5 u =>
    xs_let (jb_Checker_sameName_30 fu  n) fun k30 =>
    (if b1 < 0 ∨ 65 ≤ b1.toNatClampNeg then none else if (u.2.2.1 26 b1.toNatClampNeg) ≤ b5 then (some ((1 : Int32), u)) else ((if (b3 + b5) < 0 ∨ 8192 ≤ (b3 + b5).toNatClampNeg then none else if (b4 + b5) < 0 ∨ 8192 ≤ (b4 + b5).toNatClampNeg then none else if (u.2.2.1 1 (b3 + b5).toNatClampNeg) = (u.2.2.1 1 (b4 + b5).toNatClampNeg) then ((xs_let (b5 + (1 : Int32)) fun a3 => k30 b1 b3 b4 a3 u)) else (some ((0 : Int32), u)))))
noncomputable def fm_Checker_sameName (fu : Nat) (x0 : Int32) (x1 : Int32) (u : xk_St) : Option (Int32 × xk_St) :=
  (if x0 < 0 ∨ 65 ≤ x0.toNatClampNeg then none else xs_let (u.2.2.1 25 x0.toNatClampNeg) fun a1 => if x1 < 0 ∨ 65 ≤ x1.toNatClampNeg then none else xs_let (u.2.2.1 25 x1.toNatClampNeg) fun a2 => jb_Checker_sameName_30 fu fu x0 a1 a2 (0 : Int32) u)
set_option maxHeartbeats 4000000 in
set_option maxRecDepth 100000 in
theorem wj_Checker_sameName_30 {p : Program} {l : Launch} {e : Env} {s : State} {m : MethodId} {args : Array Value} {below : List Frame} {meth : Method} {c : Code} {D : va_G} {ad : Nat → Nat} {ca : Nat → ClassId} {ads : List Nat} {fu : Nat} (htr : l.stackTraces = false) (C : xk_C D kx_cl (kx_ty ca) (kw_h ad ca) ads "ModuleHouse$Checker" prog_2_method_10_code 6 (some .boolean) p e s m args meth c) (hne : c.exceptionTable.isEmpty = true) {u' : xk_St} {r : Int32} : ∀ {n : Nat} {b1 : Int32} {b3 : Int32} {b4 : Int32} {b5 : Int32} {u : xk_St} {H : Heap} {locs : List Loc} {ls : Array Slot} (h : jb_Checker_sameName_30 fu  n b1 b3 b4 b5 u = some (r, u')) (hP : va_P D kx_cl (kw_h ad ca u) H) (hS : va_S (xk_A ads s.heap.size) s.heap H locs) (hl : lv_has ls 6 [(0, .ref (ad 55)), (1, .int b1), (3, .int b3), (4, .int b4), (5, .int b5)]), W p l e rm_Checker_sameName s m args below meth c H locs 0 0 (xk_MQ below (xk_Qc D kx_cl (kw_h ad ca) ads (xo_i (.inl r)) u') args s (xk_A ads s.heap.size)) (F0 m 30 ls []) := by
  intro n
  have hx := C.1.1
  have hb := C.1.2.1
  have hok := C.2.2.1
  induction n with
  | zero =>
    intro _ _ _ _ u H locs ls h
    have h : none = some (r, u') := h
    cases h
  | succ n ih =>
    intro b1 b3 b4 b5 u H locs ls h hP hS hl
    unfold jb_Checker_sameName_30 at h
    obtain ⟨k30, ek30, h⟩ := xp_let h
    have hk30 : ∀ (c0 : Int32) (c1 : Int32) (c2 : Int32) (c3 : Int32) (u : xk_St) (H : Heap) (locs : List Loc) (ls : Array Slot), k30 c0 c1 c2 c3 u = some (r, u') → va_P D kx_cl (kw_h ad ca u) H → va_S (xk_A ads s.heap.size) s.heap H locs → lv_has ls 6 [(0, .ref (ad 55)), (1, .int c0), (3, .int c1), (4, .int c2), (5, .int c3)] → W p l e rm_Checker_sameName s m args below meth c H locs 0 0 (xk_MQ below (xk_Qc D kx_cl (kw_h ad ca) ads (xo_i (.inl r)) u') args s (xk_A ads s.heap.size)) (F0 m 30 ls []) := by
      intro c0 c1 c2 c3 u H locs ls h hP hS hl
      subst ek30
      exact ih h hP hS hl
    clear ih ek30
    refine lv_iload hx hb dd_Checker_sameName_30 (lv_at hl 4 rfl) ?_
    refine lv_aload_n hx hb dd_Checker_sameName_32 rfl (lv_at hl 0 rfl) ?_
    refine gf_h_Checker_55_module C hP dd_Checker_sameName_33 ?_
    refine gf_h_Checker_4_exports C hP dd_Checker_sameName_36 ?_
    refine gf_h_Checker_39_second C hP dd_Checker_sameName_39 ?_
    refine lv_iload_n hx hb dd_Checker_sameName_42 rfl (lv_at hl 1 rfl) ?_
    obtain ⟨hi, h⟩ := xp_g h
    refine al_h_42 C hP hi dd_Checker_sameName_43 ?_
    refine lv_icmp_ge (tgt := 83) hx hb dd_Checker_sameName_44 (by decide) (fun hc => ?_) (fun hc => ?_)
    · have h := xp_t hc h
      refine lv_iconst (v := 1) hx hb dd_Checker_sameName_83 (by decide) ?_
      obtain ⟨rfl, rfl⟩ := xp_r h
      exact xr_zret C hP hS (by decide) dd_Checker_sameName_84
    · have h := xp_f hc h
      refine lv_aload_n hx hb dd_Checker_sameName_47 rfl (lv_at hl 0 rfl) ?_
      refine gf_h_Checker_55_module C hP dd_Checker_sameName_48 ?_
      refine gf_h_Checker_4_bytes C hP dd_Checker_sameName_51 ?_
      refine lv_iload_n hx hb dd_Checker_sameName_54 rfl (lv_at hl 2 rfl) ?_
      refine lv_iload hx hb dd_Checker_sameName_55 (lv_at hl 4 rfl) ?_
      refine lv_iadd hx hb dd_Checker_sameName_57 ?_
      obtain ⟨hi, h⟩ := xp_g h
      refine al_h_5 C hP hi dd_Checker_sameName_58 ?_
      refine lv_aload_n hx hb dd_Checker_sameName_59 rfl (lv_at hl 0 rfl) ?_
      refine gf_h_Checker_55_module C hP dd_Checker_sameName_60 ?_
      refine gf_h_Checker_4_bytes C hP dd_Checker_sameName_63 ?_
      refine lv_iload hx hb dd_Checker_sameName_66 (lv_at hl 3 rfl) ?_
      refine lv_iload hx hb dd_Checker_sameName_68 (lv_at hl 4 rfl) ?_
      refine lv_iadd hx hb dd_Checker_sameName_70 ?_
      obtain ⟨hi, h⟩ := xp_g h
      refine al_h_5 C hP hi dd_Checker_sameName_71 ?_
      refine lv_icmp_eq (tgt := 77) hx hb dd_Checker_sameName_72 (by decide) (fun hc => ?_) (fun hc => ?_)
      · have h := xp_t hc h
        obtain ⟨a3, ea3, h⟩ := xp_let h
        refine lv_iinc (v := a3) (lv' := [(5, .int a3), (0, .ref (ad 55)), (1, .int b1), (3, .int b3), (4, .int b4)]) hx hb dd_Checker_sameName_77 hl (k := 4) rfl (by rw [ea3]; first | rfl | decide) (by decide) rfl (fun ls hl => ?_)
        refine lv_goto (tgt := 30) hx hb dd_Checker_sameName_80 (by decide) ?_
        exact hk30 b1 b3 b4 a3 u _ _ _ h hP hS (lv_sub hl [1, 2, 3, 4, 0] rfl)
      · have h := xp_f hc h
        refine lv_iconst (v := 0) hx hb dd_Checker_sameName_75 (by decide) ?_
        obtain ⟨rfl, rfl⟩ := xp_r h
        exact xr_zret C hP hS (by decide) dd_Checker_sameName_76
set_option maxHeartbeats 4000000 in
set_option maxRecDepth 100000 in
theorem ct_Checker_sameName {l : Launch} {D : va_G} {ad : Nat → Nat} {ca : Nat → ClassId} {ads : List Nat} (htr : l.stackTraces = false) (hok : xk_ok (kw_h ad ca) ads) {fu : Nat} {x0 : Int32} {x1 : Int32} {u u' : xk_St} {r : Int32} (h : fm_Checker_sameName fu x0 x1 u = some (r, u')) :
    ∀ sz, xk_Met l ⟨"ModuleHouse$Checker", "sameName", "(II)Z"⟩ (Cond.code ⟨"ModuleHouse$Checker", "sameName", "(II)Z"⟩ prog_2_method_10_code 6 (some .boolean) :: xk_gd) rm_Checker_sameName (xk_Pc D kx_cl (kx_ty ca) (kw_h ad ca) ads xk_F sz [.ref (ad 55), .int x0, .int x1] u) (xk_Qc D kx_cl (kw_h ad ca) ads (xo_i (.inl r)) u') (xk_A ads sz) := by
  unfold fm_Checker_sameName at h
  refine xk_con (by decide) htr hok (Nat.le_of_ble_eq_true rfl) (fun p e s m below meth c ls C hne hl hP => ?_)
  have hx := C.1.1
  have hb := C.1.2.1
  have hS : va_S (xk_A ads s.heap.size) s.heap s.heap [] := va_S.rf
  have hl : lv_has ls 6 [(0, .ref (ad 55)), (1, .int x0), (2, .int x1)] := hl
  refine lv_aload_n hx hb dd_Checker_sameName_0 rfl (lv_at hl 0 rfl) ?_
  refine gf_h_Checker_55_module C hP dd_Checker_sameName_1 ?_
  refine gf_h_Checker_4_exports C hP dd_Checker_sameName_4 ?_
  refine gf_h_Checker_39_first C hP dd_Checker_sameName_7 ?_
  refine lv_iload_n hx hb dd_Checker_sameName_10 rfl (lv_at hl 1 rfl) ?_
  obtain ⟨hi, h⟩ := xp_g h
  refine al_h_41 C hP hi dd_Checker_sameName_11 ?_
  obtain ⟨a1, ea1, h⟩ := xp_let h
  refine xr_nami ea1 ?_
  refine lv_istore_n (lv' := [(3, .int a1), (0, .ref (ad 55)), (1, .int x0), (2, .int x1)]) hx hb dd_Checker_sameName_12 rfl hl (by decide) rfl (fun ls hl => ?_)
  refine lv_aload_n hx hb dd_Checker_sameName_13 rfl (lv_at hl 1 rfl) ?_
  refine gf_h_Checker_55_module C hP dd_Checker_sameName_14 ?_
  refine gf_h_Checker_4_exports C hP dd_Checker_sameName_17 ?_
  refine gf_h_Checker_39_first C hP dd_Checker_sameName_20 ?_
  refine lv_iload_n hx hb dd_Checker_sameName_23 rfl (lv_at hl 3 rfl) ?_
  obtain ⟨hi, h⟩ := xp_g h
  refine al_h_41 C hP hi dd_Checker_sameName_24 ?_
  obtain ⟨a2, ea2, h⟩ := xp_let h
  refine xr_nami ea2 ?_
  refine lv_istore (lv' := [(4, .int a2), (3, .int a1), (0, .ref (ad 55)), (1, .int x0), (2, .int x1)]) hx hb dd_Checker_sameName_25 hl (by decide) rfl (fun ls hl => ?_)
  refine lv_iconst (v := 0) hx hb dd_Checker_sameName_27 (by decide) ?_
  refine lv_istore (lv' := [(5, .int (0 : Int32)), (4, .int a2), (3, .int a1), (0, .ref (ad 55)), (1, .int x0), (2, .int x1)]) hx hb dd_Checker_sameName_28 hl (by decide) rfl (fun ls hl => ?_)
  exact wj_Checker_sameName_30 htr C hne h hP hS (lv_sub hl [3, 4, 2, 1, 0] rfl)
abbrev rm_Checker_checkExports : Room := { frames := 7, cells := 1, slots := 6, locals := 120 }
noncomputable def jb_Checker_checkExports_162 (fu : Nat) (k10 : Int32 → xk_St → Option ((Unit ⊕ Nat) × xk_St)) (k125 : Int32 → Int32 → xk_St → Option ((Unit ⊕ Nat) × xk_St)) (b2 : Int32) (b4 : Int32) (s0 : Int32) (u : xk_St) : Option ((Unit ⊕ Nat) × xk_St) :=
  (xs_try (fm_Checker_need s0 u) fun _ u4 => xs_let (b4 + (1 : Int32)) fun a5 => k125 b2 a5 u4)
noncomputable def jb_Checker_checkExports_157 (fu : Nat) (k10 : Int32 → xk_St → Option ((Unit ⊕ Nat) × xk_St)) (k125 : Int32 → Int32 → xk_St → Option ((Unit ⊕ Nat) × xk_St)) (b2 : Int32) (b4 : Int32) (u : xk_St) : Option ((Unit ⊕ Nat) × xk_St) :=
  jb_Checker_checkExports_162 fu k10 k125 b2 b4 (1 : Int32) u
noncomputable def jb_Checker_checkExports_125 (fu : Nat) (k10 : Int32 → xk_St → Option ((Unit ⊕ Nat) × xk_St)) : Nat → Int32 → Int32 → xk_St → Option ((Unit ⊕ Nat) × xk_St)
  | 0 => fun _ _ _ => none
  | n + 1 => fun b2 b4 u =>
    xs_let (jb_Checker_checkExports_125 fu k10 n) fun k125 =>
    if b2 ≤ b4 then ((xs_let (b2 + (1 : Int32)) fun a3 => k10 a3 u)) else ((if b2 < 0 ∨ 65 ≤ b2.toNatClampNeg then none else if b4 < 0 ∨ 65 ≤ b4.toNatClampNeg then none else if (u.2.2.1 26 b2.toNatClampNeg) = (u.2.2.1 26 b4.toNatClampNeg) then ((xs_seq (fm_Checker_sameName fu b2 b4 u) fun a6 u7 => if a6 = (0 : Int32) then (jb_Checker_checkExports_157 fu k10 k125 b2 b4 u7) else (jb_Checker_checkExports_162 fu k10 k125 b2 b4 (0 : Int32) u7))) else (jb_Checker_checkExports_157 fu k10 k125 b2 b4 u)))
noncomputable def jb_Checker_checkExports_119 (fu : Nat) (k10 : Int32 → xk_St → Option ((Unit ⊕ Nat) × xk_St)) (b2 : Int32) (s0 : Int32) (u : xk_St) : Option ((Unit ⊕ Nat) × xk_St) :=
  (xs_try (fm_Checker_need s0 u) fun _ u2 => jb_Checker_checkExports_125 fu k10 fu b2 (0 : Int32) u2)
noncomputable def jb_Checker_checkExports_101 (fu : Nat) (k10 : Int32 → xk_St → Option ((Unit ⊕ Nat) × xk_St)) (b2 : Int32) (s0 : Int32) (u : xk_St) : Option ((Unit ⊕ Nat) × xk_St) :=
  (if b2 < 0 ∨ 65 ≤ b2.toNatClampNeg then none else if (s0.toInt64) ≤ (u.2.2.2 7 b2.toNatClampNeg) then (jb_Checker_checkExports_119 fu k10 b2 (0 : Int32) u) else (jb_Checker_checkExports_119 fu k10 b2 (1 : Int32) u))
noncomputable def jb_Checker_checkExports_10 (fu : Nat) : Nat → Int32 → xk_St → Option ((Unit ⊕ Nat) × xk_St)
  | 0 => fun _ _ => none
  | n + 1 => fun b2 u =>
    xs_let (jb_Checker_checkExports_10 fu  n) fun k10 =>
    if (u.1 14) ≤ b2 then (some (.inl (()), u)) else ((if b2 < 0 ∨ 65 ≤ b2.toNatClampNeg then none else xs_let (u.2.2.1 24 b2.toNatClampNeg) fun a1 => if a1 = (0 : Int32) then (jb_Checker_checkExports_101 fu k10 b2 (u.1 10) u) else if a1 = (1 : Int32) then (jb_Checker_checkExports_101 fu k10 b2 (u.1 11) u) else if a1 = (2 : Int32) then (jb_Checker_checkExports_101 fu k10 b2 (u.1 12) u) else (jb_Checker_checkExports_101 fu k10 b2 (u.1 13) u)))
noncomputable def fm_Checker_checkExports (fu : Nat) (u : xk_St) : Option ((Unit ⊕ Nat) × xk_St) :=
  jb_Checker_checkExports_10 fu fu (0 : Int32) u
set_option maxHeartbeats 4000000 in
set_option maxRecDepth 100000 in
theorem wj_Checker_checkExports_162 {p : Program} {l : Launch} {e : Env} {s : State} {m : MethodId} {args : Array Value} {below : List Frame} {meth : Method} {c : Code} {D : va_G} {ad : Nat → Nat} {ca : Nat → ClassId} {ads : List Nat} {fu : Nat} (htr : l.stackTraces = false) (C : xk_C D kx_cl (kx_ty ca) (kw_h ad ca) ads "ModuleHouse$Checker" prog_2_method_9_code 5 none p e s m args meth c) (hne : c.exceptionTable.isEmpty = true) {u' : xk_St} {r : (Unit ⊕ Nat)} {k10 : Int32 → xk_St → Option ((Unit ⊕ Nat) × xk_St)} {k125 : Int32 → Int32 → xk_St → Option ((Unit ⊕ Nat) × xk_St)} (hk10 : ∀ (c0 : Int32) (u : xk_St) (H : Heap) (locs : List Loc) (ls : Array Slot), k10 c0 u = some (r, u') → va_P D kx_cl (kw_h ad ca u) H → va_S (xk_A ads s.heap.size) s.heap H locs → lv_has ls 5 [(0, .ref (ad 55)), (1, .ref (ad 39)), (2, .int c0)] → W p l e rm_Checker_checkExports s m args below meth c H locs 0 0 (xk_MQ below (xk_Qc D kx_cl (kw_h ad ca) ads (xo_v r) u') args s (xk_A ads s.heap.size)) (F0 m 10 ls [])) (hk125 : ∀ (c0 : Int32) (c1 : Int32) (u : xk_St) (H : Heap) (locs : List Loc) (ls : Array Slot), k125 c0 c1 u = some (r, u') → va_P D kx_cl (kw_h ad ca u) H → va_S (xk_A ads s.heap.size) s.heap H locs → lv_has ls 5 [(0, .ref (ad 55)), (1, .ref (ad 39)), (2, .int c0), (4, .int c1)] → W p l e rm_Checker_checkExports s m args below meth c H locs 0 0 (xk_MQ below (xk_Qc D kx_cl (kw_h ad ca) ads (xo_v r) u') args s (xk_A ads s.heap.size)) (F0 m 125 ls [])) {b2 : Int32} {b4 : Int32} {s0 : Int32} {u : xk_St} {H : Heap} {locs : List Loc} {ls : Array Slot} (h : jb_Checker_checkExports_162 fu k10 k125 b2 b4 s0 u = some (r, u')) (hP : va_P D kx_cl (kw_h ad ca u) H) (hS : va_S (xk_A ads s.heap.size) s.heap H locs) (hl : lv_has ls 5 [(0, .ref (ad 55)), (1, .ref (ad 39)), (2, .int b2), (4, .int b4)]) : W p l e rm_Checker_checkExports s m args below meth c H locs 0 0 (xk_MQ below (xk_Qc D kx_cl (kw_h ad ca) ads (xo_v r) u') args s (xk_A ads s.heap.size)) (F0 m 162 ls [.int s0]) := by
  have hx := C.1.1
  have hb := C.1.2.1
  have hok := C.2.2.1
  unfold jb_Checker_checkExports_162 at h
  rcases xp_try h with ⟨rx, u4, hq, h⟩ | ⟨kx, ux, hq, h⟩
  rotate_left
  · obtain ⟨rfl, rfl⟩ := xp_q h
    exact xk_up (xr_S (As := [.int s0]) (rest := []) C hP hS (ct_Checker_need htr hok hq) kq_Checker_60 ⟨rfl, rfl, Nat.le_of_ble_eq_true rfl, Nat.le_of_ble_eq_true rfl⟩ ⟨Nat.le_of_ble_eq_true rfl, Nat.le_of_ble_eq_true rfl⟩ hl.1 rfl rfl (Nat.le_of_ble_eq_true rfl) dd_Checker_checkExports_162) hS hne C.2.2.2.2.2.2.1
  refine xk_goesV (xr_S (As := [.int s0]) (rest := []) C hP hS (ct_Checker_need htr hok hq) kq_Checker_60 ⟨rfl, rfl, Nat.le_of_ble_eq_true rfl, Nat.le_of_ble_eq_true rfl⟩ ⟨Nat.le_of_ble_eq_true rfl, Nat.le_of_ble_eq_true rfl⟩ hl.1 rfl rfl (Nat.le_of_ble_eq_true rfl) dd_Checker_checkExports_162) hS (fun H locs hP hS => ?_)
  clear hq
  obtain ⟨a5, ea5, h⟩ := xp_let h
  refine lv_iinc (v := a5) (lv' := [(4, .int a5), (0, .ref (ad 55)), (1, .ref (ad 39)), (2, .int b2)]) hx hb dd_Checker_checkExports_165 hl (k := 3) rfl (by rw [ea5]; first | rfl | decide) (by decide) rfl (fun ls hl => ?_)
  refine lv_goto (tgt := 125) hx hb dd_Checker_checkExports_168 (by decide) ?_
  exact hk125 b2 a5 u4 _ _ _ h hP hS (lv_sub hl [1, 2, 3, 0] rfl)
set_option maxHeartbeats 4000000 in
set_option maxRecDepth 100000 in
theorem wj_Checker_checkExports_157 {p : Program} {l : Launch} {e : Env} {s : State} {m : MethodId} {args : Array Value} {below : List Frame} {meth : Method} {c : Code} {D : va_G} {ad : Nat → Nat} {ca : Nat → ClassId} {ads : List Nat} {fu : Nat} (htr : l.stackTraces = false) (C : xk_C D kx_cl (kx_ty ca) (kw_h ad ca) ads "ModuleHouse$Checker" prog_2_method_9_code 5 none p e s m args meth c) (hne : c.exceptionTable.isEmpty = true) {u' : xk_St} {r : (Unit ⊕ Nat)} {k10 : Int32 → xk_St → Option ((Unit ⊕ Nat) × xk_St)} {k125 : Int32 → Int32 → xk_St → Option ((Unit ⊕ Nat) × xk_St)} (hk10 : ∀ (c0 : Int32) (u : xk_St) (H : Heap) (locs : List Loc) (ls : Array Slot), k10 c0 u = some (r, u') → va_P D kx_cl (kw_h ad ca u) H → va_S (xk_A ads s.heap.size) s.heap H locs → lv_has ls 5 [(0, .ref (ad 55)), (1, .ref (ad 39)), (2, .int c0)] → W p l e rm_Checker_checkExports s m args below meth c H locs 0 0 (xk_MQ below (xk_Qc D kx_cl (kw_h ad ca) ads (xo_v r) u') args s (xk_A ads s.heap.size)) (F0 m 10 ls [])) (hk125 : ∀ (c0 : Int32) (c1 : Int32) (u : xk_St) (H : Heap) (locs : List Loc) (ls : Array Slot), k125 c0 c1 u = some (r, u') → va_P D kx_cl (kw_h ad ca u) H → va_S (xk_A ads s.heap.size) s.heap H locs → lv_has ls 5 [(0, .ref (ad 55)), (1, .ref (ad 39)), (2, .int c0), (4, .int c1)] → W p l e rm_Checker_checkExports s m args below meth c H locs 0 0 (xk_MQ below (xk_Qc D kx_cl (kw_h ad ca) ads (xo_v r) u') args s (xk_A ads s.heap.size)) (F0 m 125 ls [])) {b2 : Int32} {b4 : Int32} {u : xk_St} {H : Heap} {locs : List Loc} {ls : Array Slot} (h : jb_Checker_checkExports_157 fu k10 k125 b2 b4 u = some (r, u')) (hP : va_P D kx_cl (kw_h ad ca u) H) (hS : va_S (xk_A ads s.heap.size) s.heap H locs) (hl : lv_has ls 5 [(0, .ref (ad 55)), (1, .ref (ad 39)), (2, .int b2), (4, .int b4)]) : W p l e rm_Checker_checkExports s m args below meth c H locs 0 0 (xk_MQ below (xk_Qc D kx_cl (kw_h ad ca) ads (xo_v r) u') args s (xk_A ads s.heap.size)) (F0 m 157 ls []) := by
  have hx := C.1.1
  have hb := C.1.2.1
  have hok := C.2.2.1
  unfold jb_Checker_checkExports_157 at h
  refine lv_iconst (v := 1) hx hb dd_Checker_checkExports_157 (by decide) ?_
  refine lv_goto (tgt := 162) hx hb dd_Checker_checkExports_158 (by decide) ?_
  exact wj_Checker_checkExports_162 htr C hne hk10 hk125 h hP hS (lv_sub hl [0, 1, 2, 3] rfl)
set_option maxHeartbeats 4000000 in
set_option maxRecDepth 100000 in
theorem wj_Checker_checkExports_125 {p : Program} {l : Launch} {e : Env} {s : State} {m : MethodId} {args : Array Value} {below : List Frame} {meth : Method} {c : Code} {D : va_G} {ad : Nat → Nat} {ca : Nat → ClassId} {ads : List Nat} {fu : Nat} (htr : l.stackTraces = false) (C : xk_C D kx_cl (kx_ty ca) (kw_h ad ca) ads "ModuleHouse$Checker" prog_2_method_9_code 5 none p e s m args meth c) (hne : c.exceptionTable.isEmpty = true) {u' : xk_St} {r : (Unit ⊕ Nat)} {k10 : Int32 → xk_St → Option ((Unit ⊕ Nat) × xk_St)} (hk10 : ∀ (c0 : Int32) (u : xk_St) (H : Heap) (locs : List Loc) (ls : Array Slot), k10 c0 u = some (r, u') → va_P D kx_cl (kw_h ad ca u) H → va_S (xk_A ads s.heap.size) s.heap H locs → lv_has ls 5 [(0, .ref (ad 55)), (1, .ref (ad 39)), (2, .int c0)] → W p l e rm_Checker_checkExports s m args below meth c H locs 0 0 (xk_MQ below (xk_Qc D kx_cl (kw_h ad ca) ads (xo_v r) u') args s (xk_A ads s.heap.size)) (F0 m 10 ls [])) : ∀ {n : Nat} {b2 : Int32} {b4 : Int32} {u : xk_St} {H : Heap} {locs : List Loc} {ls : Array Slot} (h : jb_Checker_checkExports_125 fu k10 n b2 b4 u = some (r, u')) (hP : va_P D kx_cl (kw_h ad ca u) H) (hS : va_S (xk_A ads s.heap.size) s.heap H locs) (hl : lv_has ls 5 [(0, .ref (ad 55)), (1, .ref (ad 39)), (2, .int b2), (4, .int b4)]), W p l e rm_Checker_checkExports s m args below meth c H locs 0 0 (xk_MQ below (xk_Qc D kx_cl (kw_h ad ca) ads (xo_v r) u') args s (xk_A ads s.heap.size)) (F0 m 125 ls []) := by
  intro n
  have hx := C.1.1
  have hb := C.1.2.1
  have hok := C.2.2.1
  induction n with
  | zero =>
    intro _ _ u H locs ls h
    have h : none = some (r, u') := h
    cases h
  | succ n ih =>
    intro b2 b4 u H locs ls h hP hS hl
    unfold jb_Checker_checkExports_125 at h
    obtain ⟨k125, ek125, h⟩ := xp_let h
    have hk125 : ∀ (c0 : Int32) (c1 : Int32) (u : xk_St) (H : Heap) (locs : List Loc) (ls : Array Slot), k125 c0 c1 u = some (r, u') → va_P D kx_cl (kw_h ad ca u) H → va_S (xk_A ads s.heap.size) s.heap H locs → lv_has ls 5 [(0, .ref (ad 55)), (1, .ref (ad 39)), (2, .int c0), (4, .int c1)] → W p l e rm_Checker_checkExports s m args below meth c H locs 0 0 (xk_MQ below (xk_Qc D kx_cl (kw_h ad ca) ads (xo_v r) u') args s (xk_A ads s.heap.size)) (F0 m 125 ls []) := by
      intro c0 c1 u H locs ls h hP hS hl
      subst ek125
      exact ih h hP hS hl
    clear ih ek125
    refine lv_iload hx hb dd_Checker_checkExports_125 (lv_at hl 3 rfl) ?_
    refine lv_iload_n hx hb dd_Checker_checkExports_127 rfl (lv_at hl 2 rfl) ?_
    refine lv_icmp_ge (tgt := 171) hx hb dd_Checker_checkExports_128 (by decide) (fun hc => ?_) (fun hc => ?_)
    · have h := xp_t hc h
      obtain ⟨a3, ea3, h⟩ := xp_let h
      refine lv_iinc (v := a3) (lv' := [(2, .int a3), (0, .ref (ad 55)), (1, .ref (ad 39)), (4, .int b4)]) hx hb dd_Checker_checkExports_171 hl (k := 2) rfl (by rw [ea3]; first | rfl | decide) (by decide) rfl (fun ls hl => ?_)
      refine lv_goto (tgt := 10) hx hb dd_Checker_checkExports_174 (by decide) ?_
      exact hk10 a3 u _ _ _ h hP hS (lv_sub hl [1, 2, 0] rfl)
    · have h := xp_f hc h
      refine lv_aload_n hx hb dd_Checker_checkExports_131 rfl (lv_at hl 1 rfl) ?_
      refine gf_h_Checker_39_second C hP dd_Checker_checkExports_132 ?_
      refine lv_iload_n hx hb dd_Checker_checkExports_135 rfl (lv_at hl 2 rfl) ?_
      obtain ⟨hi, h⟩ := xp_g h
      refine al_h_42 C hP hi dd_Checker_checkExports_136 ?_
      refine lv_aload_n hx hb dd_Checker_checkExports_137 rfl (lv_at hl 1 rfl) ?_
      refine gf_h_Checker_39_second C hP dd_Checker_checkExports_138 ?_
      refine lv_iload hx hb dd_Checker_checkExports_141 (lv_at hl 3 rfl) ?_
      obtain ⟨hi, h⟩ := xp_g h
      refine al_h_42 C hP hi dd_Checker_checkExports_143 ?_
      refine lv_icmp_ne (tgt := 157) hx hb dd_Checker_checkExports_144 (by decide) (fun hc => ?_) (fun hc => ?_)
      · have h := xp_f hc h
        exact wj_Checker_checkExports_157 htr C hne hk10 hk125 h hP hS (lv_sub hl [0, 1, 2, 3] rfl)
      · have h := xp_t hc h
        refine lv_aload_n hx hb dd_Checker_checkExports_147 rfl (lv_at hl 0 rfl) ?_
        refine lv_iload_n hx hb dd_Checker_checkExports_148 rfl (lv_at hl 2 rfl) ?_
        refine lv_iload hx hb dd_Checker_checkExports_149 (lv_at hl 3 rfl) ?_
        obtain ⟨a6, u7, hq, h⟩ := xp_seq h
        refine xk_goesI (xr_V (As := [.int b2, .int b4]) (rest := []) C hP hS (ct_Checker_sameName htr hok hq) kq_Checker_155 55 1 rfl rfl ⟨rfl, rfl, Nat.le_of_ble_eq_true rfl, Nat.le_of_ble_eq_true rfl⟩ ⟨Nat.le_of_ble_eq_true rfl, Nat.le_of_ble_eq_true rfl⟩ hl.1 rfl rfl (Nat.le_of_ble_eq_true rfl) dd_Checker_checkExports_151) hS (fun H locs hP hS => ?_)
        clear hq
        refine lv_if_ne (tgt := 161) hx hb dd_Checker_checkExports_154 (by decide) (fun hc => ?_) (fun hc => ?_)
        · have h := xp_f hc h
          refine lv_iconst (v := 0) hx hb dd_Checker_checkExports_161 (by decide) ?_
          exact wj_Checker_checkExports_162 htr C hne hk10 hk125 h hP hS (lv_sub hl [0, 1, 2, 3] rfl)
        · have h := xp_t hc h
          exact wj_Checker_checkExports_157 htr C hne hk10 hk125 h hP hS (lv_sub hl [0, 1, 2, 3] rfl)
set_option maxHeartbeats 4000000 in
set_option maxRecDepth 100000 in
theorem wj_Checker_checkExports_119 {p : Program} {l : Launch} {e : Env} {s : State} {m : MethodId} {args : Array Value} {below : List Frame} {meth : Method} {c : Code} {D : va_G} {ad : Nat → Nat} {ca : Nat → ClassId} {ads : List Nat} {fu : Nat} (htr : l.stackTraces = false) (C : xk_C D kx_cl (kx_ty ca) (kw_h ad ca) ads "ModuleHouse$Checker" prog_2_method_9_code 5 none p e s m args meth c) (hne : c.exceptionTable.isEmpty = true) {u' : xk_St} {r : (Unit ⊕ Nat)} {k10 : Int32 → xk_St → Option ((Unit ⊕ Nat) × xk_St)} (hk10 : ∀ (c0 : Int32) (u : xk_St) (H : Heap) (locs : List Loc) (ls : Array Slot), k10 c0 u = some (r, u') → va_P D kx_cl (kw_h ad ca u) H → va_S (xk_A ads s.heap.size) s.heap H locs → lv_has ls 5 [(0, .ref (ad 55)), (1, .ref (ad 39)), (2, .int c0)] → W p l e rm_Checker_checkExports s m args below meth c H locs 0 0 (xk_MQ below (xk_Qc D kx_cl (kw_h ad ca) ads (xo_v r) u') args s (xk_A ads s.heap.size)) (F0 m 10 ls [])) {b2 : Int32} {s0 : Int32} {u : xk_St} {H : Heap} {locs : List Loc} {ls : Array Slot} (h : jb_Checker_checkExports_119 fu k10 b2 s0 u = some (r, u')) (hP : va_P D kx_cl (kw_h ad ca u) H) (hS : va_S (xk_A ads s.heap.size) s.heap H locs) (hl : lv_has ls 5 [(0, .ref (ad 55)), (1, .ref (ad 39)), (2, .int b2)]) : W p l e rm_Checker_checkExports s m args below meth c H locs 0 0 (xk_MQ below (xk_Qc D kx_cl (kw_h ad ca) ads (xo_v r) u') args s (xk_A ads s.heap.size)) (F0 m 119 ls [.int s0]) := by
  have hx := C.1.1
  have hb := C.1.2.1
  have hok := C.2.2.1
  unfold jb_Checker_checkExports_119 at h
  rcases xp_try h with ⟨rx, u2, hq, h⟩ | ⟨kx, ux, hq, h⟩
  rotate_left
  · obtain ⟨rfl, rfl⟩ := xp_q h
    exact xk_up (xr_S (As := [.int s0]) (rest := []) C hP hS (ct_Checker_need htr hok hq) kq_Checker_60 ⟨rfl, rfl, Nat.le_of_ble_eq_true rfl, Nat.le_of_ble_eq_true rfl⟩ ⟨Nat.le_of_ble_eq_true rfl, Nat.le_of_ble_eq_true rfl⟩ hl.1 rfl rfl (Nat.le_of_ble_eq_true rfl) dd_Checker_checkExports_119) hS hne C.2.2.2.2.2.2.1
  refine xk_goesV (xr_S (As := [.int s0]) (rest := []) C hP hS (ct_Checker_need htr hok hq) kq_Checker_60 ⟨rfl, rfl, Nat.le_of_ble_eq_true rfl, Nat.le_of_ble_eq_true rfl⟩ ⟨Nat.le_of_ble_eq_true rfl, Nat.le_of_ble_eq_true rfl⟩ hl.1 rfl rfl (Nat.le_of_ble_eq_true rfl) dd_Checker_checkExports_119) hS (fun H locs hP hS => ?_)
  clear hq
  refine lv_iconst (v := 0) hx hb dd_Checker_checkExports_122 (by decide) ?_
  refine lv_istore (lv' := [(4, .int (0 : Int32)), (0, .ref (ad 55)), (1, .ref (ad 39)), (2, .int b2)]) hx hb dd_Checker_checkExports_123 hl (by decide) rfl (fun ls hl => ?_)
  exact wj_Checker_checkExports_125 htr C hne hk10 h hP hS (lv_sub hl [1, 2, 3, 0] rfl)
set_option maxHeartbeats 4000000 in
set_option maxRecDepth 100000 in
theorem wj_Checker_checkExports_101 {p : Program} {l : Launch} {e : Env} {s : State} {m : MethodId} {args : Array Value} {below : List Frame} {meth : Method} {c : Code} {D : va_G} {ad : Nat → Nat} {ca : Nat → ClassId} {ads : List Nat} {fu : Nat} (htr : l.stackTraces = false) (C : xk_C D kx_cl (kx_ty ca) (kw_h ad ca) ads "ModuleHouse$Checker" prog_2_method_9_code 5 none p e s m args meth c) (hne : c.exceptionTable.isEmpty = true) {u' : xk_St} {r : (Unit ⊕ Nat)} {k10 : Int32 → xk_St → Option ((Unit ⊕ Nat) × xk_St)} (hk10 : ∀ (c0 : Int32) (u : xk_St) (H : Heap) (locs : List Loc) (ls : Array Slot), k10 c0 u = some (r, u') → va_P D kx_cl (kw_h ad ca u) H → va_S (xk_A ads s.heap.size) s.heap H locs → lv_has ls 5 [(0, .ref (ad 55)), (1, .ref (ad 39)), (2, .int c0)] → W p l e rm_Checker_checkExports s m args below meth c H locs 0 0 (xk_MQ below (xk_Qc D kx_cl (kw_h ad ca) ads (xo_v r) u') args s (xk_A ads s.heap.size)) (F0 m 10 ls [])) {b2 : Int32} {s0 : Int32} {u : xk_St} {H : Heap} {locs : List Loc} {ls : Array Slot} (h : jb_Checker_checkExports_101 fu k10 b2 s0 u = some (r, u')) (hP : va_P D kx_cl (kw_h ad ca u) H) (hS : va_S (xk_A ads s.heap.size) s.heap H locs) (hl : lv_has ls 5 [(0, .ref (ad 55)), (1, .ref (ad 39)), (2, .int b2)]) : W p l e rm_Checker_checkExports s m args below meth c H locs 0 0 (xk_MQ below (xk_Qc D kx_cl (kw_h ad ca) ads (xo_v r) u') args s (xk_A ads s.heap.size)) (F0 m 101 ls [.int s0]) := by
  have hx := C.1.1
  have hb := C.1.2.1
  have hok := C.2.2.1
  unfold jb_Checker_checkExports_101 at h
  refine lv_istore_n (lv' := [(3, .int s0), (0, .ref (ad 55)), (1, .ref (ad 39)), (2, .int b2)]) hx hb dd_Checker_checkExports_101 rfl hl (by decide) rfl (fun ls hl => ?_)
  refine lv_aload_n hx hb dd_Checker_checkExports_102 rfl (lv_at hl 2 rfl) ?_
  refine gf_h_Checker_39_number C hP dd_Checker_checkExports_103 ?_
  refine lv_iload_n hx hb dd_Checker_checkExports_106 rfl (lv_at hl 3 rfl) ?_
  obtain ⟨hi, h⟩ := xp_g h
  refine al_h_43 C hP hi dd_Checker_checkExports_107 ?_
  refine lv_iload_n hx hb dd_Checker_checkExports_108 rfl (lv_at hl 0 rfl) ?_
  refine lv_i2l hx hb dd_Checker_checkExports_109 rfl ?_
  refine xr_lc_ge (tgt := 118) hx hb dd_Checker_checkExports_110 dd_Checker_checkExports_111 (by decide) (fun hc => ?_) (fun hc => ?_)
  · have h := xp_t hc h
    refine lv_iconst (v := 0) hx hb dd_Checker_checkExports_118 (by decide) ?_
    exact wj_Checker_checkExports_119 htr C hne hk10 h hP hS (lv_sub hl [1, 2, 3] rfl)
  · have h := xp_f hc h
    refine lv_iconst (v := 1) hx hb dd_Checker_checkExports_114 (by decide) ?_
    refine lv_goto (tgt := 119) hx hb dd_Checker_checkExports_115 (by decide) ?_
    exact wj_Checker_checkExports_119 htr C hne hk10 h hP hS (lv_sub hl [1, 2, 3] rfl)
set_option maxHeartbeats 4000000 in
set_option maxRecDepth 100000 in
theorem wj_Checker_checkExports_10 {p : Program} {l : Launch} {e : Env} {s : State} {m : MethodId} {args : Array Value} {below : List Frame} {meth : Method} {c : Code} {D : va_G} {ad : Nat → Nat} {ca : Nat → ClassId} {ads : List Nat} {fu : Nat} (htr : l.stackTraces = false) (C : xk_C D kx_cl (kx_ty ca) (kw_h ad ca) ads "ModuleHouse$Checker" prog_2_method_9_code 5 none p e s m args meth c) (hne : c.exceptionTable.isEmpty = true) {u' : xk_St} {r : (Unit ⊕ Nat)} : ∀ {n : Nat} {b2 : Int32} {u : xk_St} {H : Heap} {locs : List Loc} {ls : Array Slot} (h : jb_Checker_checkExports_10 fu  n b2 u = some (r, u')) (hP : va_P D kx_cl (kw_h ad ca u) H) (hS : va_S (xk_A ads s.heap.size) s.heap H locs) (hl : lv_has ls 5 [(0, .ref (ad 55)), (1, .ref (ad 39)), (2, .int b2)]), W p l e rm_Checker_checkExports s m args below meth c H locs 0 0 (xk_MQ below (xk_Qc D kx_cl (kw_h ad ca) ads (xo_v r) u') args s (xk_A ads s.heap.size)) (F0 m 10 ls []) := by
  intro n
  have hx := C.1.1
  have hb := C.1.2.1
  have hok := C.2.2.1
  induction n with
  | zero =>
    intro _ u H locs ls h
    have h : none = some (r, u') := h
    cases h
  | succ n ih =>
    intro b2 u H locs ls h hP hS hl
    unfold jb_Checker_checkExports_10 at h
    obtain ⟨k10, ek10, h⟩ := xp_let h
    have hk10 : ∀ (c0 : Int32) (u : xk_St) (H : Heap) (locs : List Loc) (ls : Array Slot), k10 c0 u = some (r, u') → va_P D kx_cl (kw_h ad ca u) H → va_S (xk_A ads s.heap.size) s.heap H locs → lv_has ls 5 [(0, .ref (ad 55)), (1, .ref (ad 39)), (2, .int c0)] → W p l e rm_Checker_checkExports s m args below meth c H locs 0 0 (xk_MQ below (xk_Qc D kx_cl (kw_h ad ca) ads (xo_v r) u') args s (xk_A ads s.heap.size)) (F0 m 10 ls []) := by
      intro c0 u H locs ls h hP hS hl
      subst ek10
      exact ih h hP hS hl
    clear ih ek10
    refine lv_iload_n hx hb dd_Checker_checkExports_10 rfl (lv_at hl 2 rfl) ?_
    refine lv_aload_n hx hb dd_Checker_checkExports_11 rfl (lv_at hl 1 rfl) ?_
    refine gf_h_Checker_39_count C hP dd_Checker_checkExports_12 ?_
    refine lv_icmp_ge (tgt := 177) hx hb dd_Checker_checkExports_15 (by decide) (fun hc => ?_) (fun hc => ?_)
    · have h := xp_t hc h
      obtain ⟨rfl, rfl⟩ := xp_r h
      exact xr_vret C hP hS dd_Checker_checkExports_177
    · have h := xp_f hc h
      refine lv_aload_n hx hb dd_Checker_checkExports_18 rfl (lv_at hl 1 rfl) ?_
      refine gf_h_Checker_39_kind C hP dd_Checker_checkExports_19 ?_
      refine lv_iload_n hx hb dd_Checker_checkExports_22 rfl (lv_at hl 2 rfl) ?_
      obtain ⟨hi, h⟩ := xp_g h
      refine al_h_40 C hP hi dd_Checker_checkExports_23 ?_
      obtain ⟨a1, ea1, h⟩ := xp_let h
      refine xr_nami ea1 ?_
      by_cases hc0 : a1 = (0 : Int32)
      · have h := xp_t hc0 h
        refine lv_tableIn (off := 28) (tgt := 52) hx hb dd_Checker_checkExports_24 (by rw [hc0]; decide) (by rw [hc0]; decide) (by rw [hc0]; rfl) (by decide) ?_
        refine lv_aload_n hx hb dd_Checker_checkExports_52 rfl (lv_at hl 0 rfl) ?_
        refine gf_h_Checker_55_module C hP dd_Checker_checkExports_53 ?_
        refine gf_h_Checker_4_functions C hP dd_Checker_checkExports_56 ?_
        refine gf_h_Checker_19_count C hP dd_Checker_checkExports_59 ?_
        refine lv_goto (tgt := 101) hx hb dd_Checker_checkExports_62 (by decide) ?_
        exact wj_Checker_checkExports_101 htr C hne hk10 h hP hS (lv_sub hl [0, 1, 2] rfl)
      have h := xp_f hc0 h
      by_cases hc1 : a1 = (1 : Int32)
      · have h := xp_t hc1 h
        refine lv_tableIn (off := 41) (tgt := 65) hx hb dd_Checker_checkExports_24 (by rw [hc1]; decide) (by rw [hc1]; decide) (by rw [hc1]; rfl) (by decide) ?_
        refine lv_aload_n hx hb dd_Checker_checkExports_65 rfl (lv_at hl 0 rfl) ?_
        refine gf_h_Checker_55_module C hP dd_Checker_checkExports_66 ?_
        refine gf_h_Checker_4_tables C hP dd_Checker_checkExports_69 ?_
        refine gf_h_Checker_24_count C hP dd_Checker_checkExports_72 ?_
        refine lv_goto (tgt := 101) hx hb dd_Checker_checkExports_75 (by decide) ?_
        exact wj_Checker_checkExports_101 htr C hne hk10 h hP hS (lv_sub hl [0, 1, 2] rfl)
      have h := xp_f hc1 h
      by_cases hc2 : a1 = (2 : Int32)
      · have h := xp_t hc2 h
        refine lv_tableIn (off := 54) (tgt := 78) hx hb dd_Checker_checkExports_24 (by rw [hc2]; decide) (by rw [hc2]; decide) (by rw [hc2]; rfl) (by decide) ?_
        refine lv_aload_n hx hb dd_Checker_checkExports_78 rfl (lv_at hl 0 rfl) ?_
        refine gf_h_Checker_55_module C hP dd_Checker_checkExports_79 ?_
        refine gf_h_Checker_4_memories C hP dd_Checker_checkExports_82 ?_
        refine gf_h_Checker_29_count C hP dd_Checker_checkExports_85 ?_
        refine lv_goto (tgt := 101) hx hb dd_Checker_checkExports_88 (by decide) ?_
        exact wj_Checker_checkExports_101 htr C hne hk10 h hP hS (lv_sub hl [0, 1, 2] rfl)
      have h := xp_f hc2 h
      have hd0 := lv_neT hc0 (a := 0) (by decide)
      have hd1 := lv_neT hc1 (a := 1) (by decide)
      have hd2 := lv_neT hc2 (a := 2) (by decide)
      refine lv_tableOut (tgt := 91) hx hb dd_Checker_checkExports_24 (by omega) (by decide) ?_
      refine lv_aload_n hx hb dd_Checker_checkExports_91 rfl (lv_at hl 0 rfl) ?_
      refine gf_h_Checker_55_module C hP dd_Checker_checkExports_92 ?_
      refine gf_h_Checker_4_globals C hP dd_Checker_checkExports_95 ?_
      refine gf_h_Checker_34_count C hP dd_Checker_checkExports_98 ?_
      exact wj_Checker_checkExports_101 htr C hne hk10 h hP hS (lv_sub hl [0, 1, 2] rfl)
set_option maxHeartbeats 4000000 in
set_option maxRecDepth 100000 in
theorem ct_Checker_checkExports {l : Launch} {D : va_G} {ad : Nat → Nat} {ca : Nat → ClassId} {ads : List Nat} (htr : l.stackTraces = false) (hok : xk_ok (kw_h ad ca) ads) {fu : Nat} {u u' : xk_St} {r : (Unit ⊕ Nat)} (h : fm_Checker_checkExports fu u = some (r, u')) :
    ∀ sz, xk_Met l ⟨"ModuleHouse$Checker", "checkExports", "()V"⟩ (Cond.code ⟨"ModuleHouse$Checker", "checkExports", "()V"⟩ prog_2_method_9_code 5 none :: xk_gd) rm_Checker_checkExports (xk_Pc D kx_cl (kx_ty ca) (kw_h ad ca) ads xk_F sz [.ref (ad 55)] u) (xk_Qc D kx_cl (kw_h ad ca) ads (xo_v r) u') (xk_A ads sz) := by
  unfold fm_Checker_checkExports at h
  refine xk_con (by decide) htr hok (Nat.le_of_ble_eq_true rfl) (fun p e s m below meth c ls C hne hl hP => ?_)
  have hx := C.1.1
  have hb := C.1.2.1
  have hS : va_S (xk_A ads s.heap.size) s.heap s.heap [] := va_S.rf
  have hl : lv_has ls 5 [(0, .ref (ad 55))] := hl
  refine lv_aload_n hx hb dd_Checker_checkExports_0 rfl (lv_at hl 0 rfl) ?_
  refine gf_h_Checker_55_module C hP dd_Checker_checkExports_1 ?_
  refine gf_h_Checker_4_exports C hP dd_Checker_checkExports_4 ?_
  refine lv_astore_n (lv' := [(1, .ref (ad 39)), (0, .ref (ad 55))]) hx hb dd_Checker_checkExports_7 rfl hl (by decide) rfl (fun ls hl => ?_)
  refine lv_iconst (v := 0) hx hb dd_Checker_checkExports_8 (by decide) ?_
  refine lv_istore_n (lv' := [(2, .int (0 : Int32)), (1, .ref (ad 39)), (0, .ref (ad 55))]) hx hb dd_Checker_checkExports_9 rfl hl (by decide) rfl (fun ls hl => ?_)
  exact wj_Checker_checkExports_10 htr C hne h hP hS (lv_sub hl [2, 1, 0] rfl)
abbrev rm_Checker_checkSegments : Room := { frames := 7, cells := 1, slots := 6, locals := 120 }
noncomputable def jb_Checker_checkSegments_146 (fu : Nat) (k72 : Int32 → xk_St → Option ((Unit ⊕ Nat) × xk_St)) (k101 : Int32 → Int32 → Int32 → xk_St → Option ((Unit ⊕ Nat) × xk_St)) (b1 : Int32) (b2 : Int32) (b3 : Int32) (s0 : Int32) (u : xk_St) : Option ((Unit ⊕ Nat) × xk_St) :=
  (xs_try (fm_Checker_need s0 u) fun _ u5 => xs_let (b3 + (1 : Int32)) fun a6 => k101 b1 b2 a6 u5)
noncomputable def jb_Checker_checkSegments_101 (fu : Nat) (k72 : Int32 → xk_St → Option ((Unit ⊕ Nat) × xk_St)) : Nat → Int32 → Int32 → Int32 → xk_St → Option ((Unit ⊕ Nat) × xk_St)
  | 0 => fun _ _ _ _ => none
  | n + 1 => fun b1 b2 b3 u =>
    xs_let (jb_Checker_checkSegments_101 fu k72 n) fun k101 =>
    (if b1 < 0 ∨ 65 ≤ b1.toNatClampNeg then none else if (b2 + (u.2.2.1 29 b1.toNatClampNeg)) ≤ b3 then ((xs_let (b1 + (1 : Int32)) fun a4 => k72 a4 u)) else ((if b3 < 0 ∨ 8192 ≤ b3.toNatClampNeg then none else if (u.1 10) ≤ (u.2.2.1 11 b3.toNatClampNeg) then (jb_Checker_checkSegments_146 fu k72 k101 b1 b2 b3 (0 : Int32) u) else (jb_Checker_checkSegments_146 fu k72 k101 b1 b2 b3 (1 : Int32) u))))
noncomputable def jb_Checker_checkSegments_72 (fu : Nat) : Nat → Int32 → xk_St → Option ((Unit ⊕ Nat) × xk_St)
  | 0 => fun _ _ => none
  | n + 1 => fun b1 u =>
    xs_let (jb_Checker_checkSegments_72 fu  n) fun k72 =>
    if (u.1 15) ≤ b1 then (some (.inl (()), u)) else ((if b1 < 0 ∨ 65 ≤ b1.toNatClampNeg then none else xs_let (u.2.2.1 28 b1.toNatClampNeg) fun a3 => jb_Checker_checkSegments_101 fu k72 fu b1 a3 a3 u))
noncomputable def jb_Checker_checkSegments_67 (fu : Nat) (s0 : Int32) (u : xk_St) : Option ((Unit ⊕ Nat) × xk_St) :=
  (xs_try (fm_Checker_need s0 u) fun _ u2 => jb_Checker_checkSegments_72 fu fu (0 : Int32) u2)
noncomputable def jb_Checker_checkSegments_62 (fu : Nat) (u : xk_St) : Option ((Unit ⊕ Nat) × xk_St) :=
  jb_Checker_checkSegments_67 fu (1 : Int32) u
noncomputable def jb_Checker_checkSegments_32 (fu : Nat) (s0 : Int32) (u : xk_St) : Option ((Unit ⊕ Nat) × xk_St) :=
  (xs_try (fm_Checker_need s0 u) fun _ u1 => if (u1.1 16) = (0 : Int32) then (jb_Checker_checkSegments_62 fu u1) else (if (u1.1 12) = (1 : Int32) then (jb_Checker_checkSegments_62 fu u1) else (jb_Checker_checkSegments_67 fu (0 : Int32) u1)))
noncomputable def jb_Checker_checkSegments_27 (fu : Nat) (u : xk_St) : Option ((Unit ⊕ Nat) × xk_St) :=
  jb_Checker_checkSegments_32 fu (1 : Int32) u
noncomputable def fm_Checker_checkSegments (fu : Nat) (u : xk_St) : Option ((Unit ⊕ Nat) × xk_St) :=
  if (u.1 15) = (0 : Int32) then (jb_Checker_checkSegments_27 fu u) else (if (u.1 11) = (1 : Int32) then (jb_Checker_checkSegments_27 fu u) else (jb_Checker_checkSegments_32 fu (0 : Int32) u))
set_option maxHeartbeats 4000000 in
set_option maxRecDepth 100000 in
theorem wj_Checker_checkSegments_146 {p : Program} {l : Launch} {e : Env} {s : State} {m : MethodId} {args : Array Value} {below : List Frame} {meth : Method} {c : Code} {D : va_G} {ad : Nat → Nat} {ca : Nat → ClassId} {ads : List Nat} {fu : Nat} (htr : l.stackTraces = false) (C : xk_C D kx_cl (kx_ty ca) (kw_h ad ca) ads "ModuleHouse$Checker" prog_2_method_11_code 4 none p e s m args meth c) (hne : c.exceptionTable.isEmpty = true) {u' : xk_St} {r : (Unit ⊕ Nat)} {k72 : Int32 → xk_St → Option ((Unit ⊕ Nat) × xk_St)} {k101 : Int32 → Int32 → Int32 → xk_St → Option ((Unit ⊕ Nat) × xk_St)} (hk72 : ∀ (c0 : Int32) (u : xk_St) (H : Heap) (locs : List Loc) (ls : Array Slot), k72 c0 u = some (r, u') → va_P D kx_cl (kw_h ad ca u) H → va_S (xk_A ads s.heap.size) s.heap H locs → lv_has ls 4 [(0, .ref (ad 55)), (1, .int c0)] → W p l e rm_Checker_checkSegments s m args below meth c H locs 0 0 (xk_MQ below (xk_Qc D kx_cl (kw_h ad ca) ads (xo_v r) u') args s (xk_A ads s.heap.size)) (F0 m 72 ls [])) (hk101 : ∀ (c0 : Int32) (c1 : Int32) (c2 : Int32) (u : xk_St) (H : Heap) (locs : List Loc) (ls : Array Slot), k101 c0 c1 c2 u = some (r, u') → va_P D kx_cl (kw_h ad ca u) H → va_S (xk_A ads s.heap.size) s.heap H locs → lv_has ls 4 [(0, .ref (ad 55)), (1, .int c0), (2, .int c1), (3, .int c2)] → W p l e rm_Checker_checkSegments s m args below meth c H locs 0 0 (xk_MQ below (xk_Qc D kx_cl (kw_h ad ca) ads (xo_v r) u') args s (xk_A ads s.heap.size)) (F0 m 101 ls [])) {b1 : Int32} {b2 : Int32} {b3 : Int32} {s0 : Int32} {u : xk_St} {H : Heap} {locs : List Loc} {ls : Array Slot} (h : jb_Checker_checkSegments_146 fu k72 k101 b1 b2 b3 s0 u = some (r, u')) (hP : va_P D kx_cl (kw_h ad ca u) H) (hS : va_S (xk_A ads s.heap.size) s.heap H locs) (hl : lv_has ls 4 [(0, .ref (ad 55)), (1, .int b1), (2, .int b2), (3, .int b3)]) : W p l e rm_Checker_checkSegments s m args below meth c H locs 0 0 (xk_MQ below (xk_Qc D kx_cl (kw_h ad ca) ads (xo_v r) u') args s (xk_A ads s.heap.size)) (F0 m 146 ls [.int s0]) := by
  have hx := C.1.1
  have hb := C.1.2.1
  have hok := C.2.2.1
  unfold jb_Checker_checkSegments_146 at h
  rcases xp_try h with ⟨rx, u5, hq, h⟩ | ⟨kx, ux, hq, h⟩
  rotate_left
  · obtain ⟨rfl, rfl⟩ := xp_q h
    exact xk_up (xr_S (As := [.int s0]) (rest := []) C hP hS (ct_Checker_need htr hok hq) kq_Checker_60 ⟨rfl, rfl, Nat.le_of_ble_eq_true rfl, Nat.le_of_ble_eq_true rfl⟩ ⟨Nat.le_of_ble_eq_true rfl, Nat.le_of_ble_eq_true rfl⟩ hl.1 rfl rfl (Nat.le_of_ble_eq_true rfl) dd_Checker_checkSegments_146) hS hne C.2.2.2.2.2.2.1
  refine xk_goesV (xr_S (As := [.int s0]) (rest := []) C hP hS (ct_Checker_need htr hok hq) kq_Checker_60 ⟨rfl, rfl, Nat.le_of_ble_eq_true rfl, Nat.le_of_ble_eq_true rfl⟩ ⟨Nat.le_of_ble_eq_true rfl, Nat.le_of_ble_eq_true rfl⟩ hl.1 rfl rfl (Nat.le_of_ble_eq_true rfl) dd_Checker_checkSegments_146) hS (fun H locs hP hS => ?_)
  clear hq
  obtain ⟨a6, ea6, h⟩ := xp_let h
  refine lv_iinc (v := a6) (lv' := [(3, .int a6), (0, .ref (ad 55)), (1, .int b1), (2, .int b2)]) hx hb dd_Checker_checkSegments_149 hl (k := 3) rfl (by rw [ea6]; first | rfl | decide) (by decide) rfl (fun ls hl => ?_)
  refine lv_goto (tgt := 101) hx hb dd_Checker_checkSegments_152 (by decide) ?_
  exact hk101 b1 b2 a6 u5 _ _ _ h hP hS (lv_sub hl [1, 2, 3, 0] rfl)
set_option maxHeartbeats 4000000 in
set_option maxRecDepth 100000 in
theorem wj_Checker_checkSegments_101 {p : Program} {l : Launch} {e : Env} {s : State} {m : MethodId} {args : Array Value} {below : List Frame} {meth : Method} {c : Code} {D : va_G} {ad : Nat → Nat} {ca : Nat → ClassId} {ads : List Nat} {fu : Nat} (htr : l.stackTraces = false) (C : xk_C D kx_cl (kx_ty ca) (kw_h ad ca) ads "ModuleHouse$Checker" prog_2_method_11_code 4 none p e s m args meth c) (hne : c.exceptionTable.isEmpty = true) {u' : xk_St} {r : (Unit ⊕ Nat)} {k72 : Int32 → xk_St → Option ((Unit ⊕ Nat) × xk_St)} (hk72 : ∀ (c0 : Int32) (u : xk_St) (H : Heap) (locs : List Loc) (ls : Array Slot), k72 c0 u = some (r, u') → va_P D kx_cl (kw_h ad ca u) H → va_S (xk_A ads s.heap.size) s.heap H locs → lv_has ls 4 [(0, .ref (ad 55)), (1, .int c0)] → W p l e rm_Checker_checkSegments s m args below meth c H locs 0 0 (xk_MQ below (xk_Qc D kx_cl (kw_h ad ca) ads (xo_v r) u') args s (xk_A ads s.heap.size)) (F0 m 72 ls [])) : ∀ {n : Nat} {b1 : Int32} {b2 : Int32} {b3 : Int32} {u : xk_St} {H : Heap} {locs : List Loc} {ls : Array Slot} (h : jb_Checker_checkSegments_101 fu k72 n b1 b2 b3 u = some (r, u')) (hP : va_P D kx_cl (kw_h ad ca u) H) (hS : va_S (xk_A ads s.heap.size) s.heap H locs) (hl : lv_has ls 4 [(0, .ref (ad 55)), (1, .int b1), (2, .int b2), (3, .int b3)]), W p l e rm_Checker_checkSegments s m args below meth c H locs 0 0 (xk_MQ below (xk_Qc D kx_cl (kw_h ad ca) ads (xo_v r) u') args s (xk_A ads s.heap.size)) (F0 m 101 ls []) := by
  intro n
  have hx := C.1.1
  have hb := C.1.2.1
  have hok := C.2.2.1
  induction n with
  | zero =>
    intro _ _ _ u H locs ls h
    have h : none = some (r, u') := h
    cases h
  | succ n ih =>
    intro b1 b2 b3 u H locs ls h hP hS hl
    unfold jb_Checker_checkSegments_101 at h
    obtain ⟨k101, ek101, h⟩ := xp_let h
    have hk101 : ∀ (c0 : Int32) (c1 : Int32) (c2 : Int32) (u : xk_St) (H : Heap) (locs : List Loc) (ls : Array Slot), k101 c0 c1 c2 u = some (r, u') → va_P D kx_cl (kw_h ad ca u) H → va_S (xk_A ads s.heap.size) s.heap H locs → lv_has ls 4 [(0, .ref (ad 55)), (1, .int c0), (2, .int c1), (3, .int c2)] → W p l e rm_Checker_checkSegments s m args below meth c H locs 0 0 (xk_MQ below (xk_Qc D kx_cl (kw_h ad ca) ads (xo_v r) u') args s (xk_A ads s.heap.size)) (F0 m 101 ls []) := by
      intro c0 c1 c2 u H locs ls h hP hS hl
      subst ek101
      exact ih h hP hS hl
    clear ih ek101
    refine lv_iload_n hx hb dd_Checker_checkSegments_101 rfl (lv_at hl 3 rfl) ?_
    refine lv_iload_n hx hb dd_Checker_checkSegments_102 rfl (lv_at hl 2 rfl) ?_
    refine lv_aload_n hx hb dd_Checker_checkSegments_103 rfl (lv_at hl 0 rfl) ?_
    refine gf_h_Checker_55_module C hP dd_Checker_checkSegments_104 ?_
    refine gf_h_Checker_4_elements C hP dd_Checker_checkSegments_107 ?_
    refine gf_h_Checker_44_second C hP dd_Checker_checkSegments_110 ?_
    refine lv_iload_n hx hb dd_Checker_checkSegments_113 rfl (lv_at hl 1 rfl) ?_
    obtain ⟨hi, h⟩ := xp_g h
    refine al_h_47 C hP hi dd_Checker_checkSegments_114 ?_
    refine lv_iadd hx hb dd_Checker_checkSegments_115 ?_
    refine lv_icmp_ge (tgt := 155) hx hb dd_Checker_checkSegments_116 (by decide) (fun hc => ?_) (fun hc => ?_)
    · have h := xp_t hc h
      obtain ⟨a4, ea4, h⟩ := xp_let h
      refine lv_iinc (v := a4) (lv' := [(1, .int a4), (0, .ref (ad 55)), (2, .int b2), (3, .int b3)]) hx hb dd_Checker_checkSegments_155 hl (k := 1) rfl (by rw [ea4]; first | rfl | decide) (by decide) rfl (fun ls hl => ?_)
      refine lv_goto (tgt := 72) hx hb dd_Checker_checkSegments_158 (by decide) ?_
      exact hk72 a4 u _ _ _ h hP hS (lv_sub hl [1, 0] rfl)
    · have h := xp_f hc h
      refine lv_aload_n hx hb dd_Checker_checkSegments_119 rfl (lv_at hl 0 rfl) ?_
      refine gf_h_Checker_55_code C hP dd_Checker_checkSegments_120 ?_
      refine gf_h_Checker_12_numbers C hP dd_Checker_checkSegments_123 ?_
      refine lv_iload_n hx hb dd_Checker_checkSegments_126 rfl (lv_at hl 3 rfl) ?_
      obtain ⟨hi, h⟩ := xp_g h
      refine al_h_18 C hP hi dd_Checker_checkSegments_127 ?_
      refine lv_aload_n hx hb dd_Checker_checkSegments_128 rfl (lv_at hl 0 rfl) ?_
      refine gf_h_Checker_55_module C hP dd_Checker_checkSegments_129 ?_
      refine gf_h_Checker_4_functions C hP dd_Checker_checkSegments_132 ?_
      refine gf_h_Checker_19_count C hP dd_Checker_checkSegments_135 ?_
      refine lv_icmp_ge (tgt := 145) hx hb dd_Checker_checkSegments_138 (by decide) (fun hc => ?_) (fun hc => ?_)
      · have h := xp_t hc h
        refine lv_iconst (v := 0) hx hb dd_Checker_checkSegments_145 (by decide) ?_
        exact wj_Checker_checkSegments_146 htr C hne hk72 hk101 h hP hS (lv_sub hl [0, 1, 2, 3] rfl)
      · have h := xp_f hc h
        refine lv_iconst (v := 1) hx hb dd_Checker_checkSegments_141 (by decide) ?_
        refine lv_goto (tgt := 146) hx hb dd_Checker_checkSegments_142 (by decide) ?_
        exact wj_Checker_checkSegments_146 htr C hne hk72 hk101 h hP hS (lv_sub hl [0, 1, 2, 3] rfl)
set_option maxHeartbeats 4000000 in
set_option maxRecDepth 100000 in
theorem wj_Checker_checkSegments_72 {p : Program} {l : Launch} {e : Env} {s : State} {m : MethodId} {args : Array Value} {below : List Frame} {meth : Method} {c : Code} {D : va_G} {ad : Nat → Nat} {ca : Nat → ClassId} {ads : List Nat} {fu : Nat} (htr : l.stackTraces = false) (C : xk_C D kx_cl (kx_ty ca) (kw_h ad ca) ads "ModuleHouse$Checker" prog_2_method_11_code 4 none p e s m args meth c) (hne : c.exceptionTable.isEmpty = true) {u' : xk_St} {r : (Unit ⊕ Nat)} : ∀ {n : Nat} {b1 : Int32} {u : xk_St} {H : Heap} {locs : List Loc} {ls : Array Slot} (h : jb_Checker_checkSegments_72 fu  n b1 u = some (r, u')) (hP : va_P D kx_cl (kw_h ad ca u) H) (hS : va_S (xk_A ads s.heap.size) s.heap H locs) (hl : lv_has ls 4 [(0, .ref (ad 55)), (1, .int b1)]), W p l e rm_Checker_checkSegments s m args below meth c H locs 0 0 (xk_MQ below (xk_Qc D kx_cl (kw_h ad ca) ads (xo_v r) u') args s (xk_A ads s.heap.size)) (F0 m 72 ls []) := by
  intro n
  have hx := C.1.1
  have hb := C.1.2.1
  have hok := C.2.2.1
  induction n with
  | zero =>
    intro _ u H locs ls h
    have h : none = some (r, u') := h
    cases h
  | succ n ih =>
    intro b1 u H locs ls h hP hS hl
    unfold jb_Checker_checkSegments_72 at h
    obtain ⟨k72, ek72, h⟩ := xp_let h
    have hk72 : ∀ (c0 : Int32) (u : xk_St) (H : Heap) (locs : List Loc) (ls : Array Slot), k72 c0 u = some (r, u') → va_P D kx_cl (kw_h ad ca u) H → va_S (xk_A ads s.heap.size) s.heap H locs → lv_has ls 4 [(0, .ref (ad 55)), (1, .int c0)] → W p l e rm_Checker_checkSegments s m args below meth c H locs 0 0 (xk_MQ below (xk_Qc D kx_cl (kw_h ad ca) ads (xo_v r) u') args s (xk_A ads s.heap.size)) (F0 m 72 ls []) := by
      intro c0 u H locs ls h hP hS hl
      subst ek72
      exact ih h hP hS hl
    clear ih ek72
    refine lv_iload_n hx hb dd_Checker_checkSegments_72 rfl (lv_at hl 1 rfl) ?_
    refine lv_aload_n hx hb dd_Checker_checkSegments_73 rfl (lv_at hl 0 rfl) ?_
    refine gf_h_Checker_55_module C hP dd_Checker_checkSegments_74 ?_
    refine gf_h_Checker_4_elements C hP dd_Checker_checkSegments_77 ?_
    refine gf_h_Checker_44_count C hP dd_Checker_checkSegments_80 ?_
    refine lv_icmp_ge (tgt := 161) hx hb dd_Checker_checkSegments_83 (by decide) (fun hc => ?_) (fun hc => ?_)
    · have h := xp_t hc h
      obtain ⟨rfl, rfl⟩ := xp_r h
      exact xr_vret C hP hS dd_Checker_checkSegments_161
    · have h := xp_f hc h
      refine lv_aload_n hx hb dd_Checker_checkSegments_86 rfl (lv_at hl 0 rfl) ?_
      refine gf_h_Checker_55_module C hP dd_Checker_checkSegments_87 ?_
      refine gf_h_Checker_4_elements C hP dd_Checker_checkSegments_90 ?_
      refine gf_h_Checker_44_first C hP dd_Checker_checkSegments_93 ?_
      refine lv_iload_n hx hb dd_Checker_checkSegments_96 rfl (lv_at hl 1 rfl) ?_
      obtain ⟨hi, h⟩ := xp_g h
      refine al_h_46 C hP hi dd_Checker_checkSegments_97 ?_
      obtain ⟨a3, ea3, h⟩ := xp_let h
      refine xr_nami ea3 ?_
      refine lv_istore_n (lv' := [(2, .int a3), (0, .ref (ad 55)), (1, .int b1)]) hx hb dd_Checker_checkSegments_98 rfl hl (by decide) rfl (fun ls hl => ?_)
      refine lv_iload_n hx hb dd_Checker_checkSegments_99 rfl (lv_at hl 0 rfl) ?_
      refine lv_istore_n (lv' := [(3, .int a3), (2, .int a3), (0, .ref (ad 55)), (1, .int b1)]) hx hb dd_Checker_checkSegments_100 rfl hl (by decide) rfl (fun ls hl => ?_)
      exact wj_Checker_checkSegments_101 htr C hne hk72 h hP hS (lv_sub hl [2, 3, 1, 0] rfl)
set_option maxHeartbeats 4000000 in
set_option maxRecDepth 100000 in
theorem wj_Checker_checkSegments_67 {p : Program} {l : Launch} {e : Env} {s : State} {m : MethodId} {args : Array Value} {below : List Frame} {meth : Method} {c : Code} {D : va_G} {ad : Nat → Nat} {ca : Nat → ClassId} {ads : List Nat} {fu : Nat} (htr : l.stackTraces = false) (C : xk_C D kx_cl (kx_ty ca) (kw_h ad ca) ads "ModuleHouse$Checker" prog_2_method_11_code 4 none p e s m args meth c) (hne : c.exceptionTable.isEmpty = true) {u' : xk_St} {r : (Unit ⊕ Nat)} {s0 : Int32} {u : xk_St} {H : Heap} {locs : List Loc} {ls : Array Slot} (h : jb_Checker_checkSegments_67 fu  s0 u = some (r, u')) (hP : va_P D kx_cl (kw_h ad ca u) H) (hS : va_S (xk_A ads s.heap.size) s.heap H locs) (hl : lv_has ls 4 [(0, .ref (ad 55))]) : W p l e rm_Checker_checkSegments s m args below meth c H locs 0 0 (xk_MQ below (xk_Qc D kx_cl (kw_h ad ca) ads (xo_v r) u') args s (xk_A ads s.heap.size)) (F0 m 67 ls [.int s0]) := by
  have hx := C.1.1
  have hb := C.1.2.1
  have hok := C.2.2.1
  unfold jb_Checker_checkSegments_67 at h
  rcases xp_try h with ⟨rx, u2, hq, h⟩ | ⟨kx, ux, hq, h⟩
  rotate_left
  · obtain ⟨rfl, rfl⟩ := xp_q h
    exact xk_up (xr_S (As := [.int s0]) (rest := []) C hP hS (ct_Checker_need htr hok hq) kq_Checker_60 ⟨rfl, rfl, Nat.le_of_ble_eq_true rfl, Nat.le_of_ble_eq_true rfl⟩ ⟨Nat.le_of_ble_eq_true rfl, Nat.le_of_ble_eq_true rfl⟩ hl.1 rfl rfl (Nat.le_of_ble_eq_true rfl) dd_Checker_checkSegments_67) hS hne C.2.2.2.2.2.2.1
  refine xk_goesV (xr_S (As := [.int s0]) (rest := []) C hP hS (ct_Checker_need htr hok hq) kq_Checker_60 ⟨rfl, rfl, Nat.le_of_ble_eq_true rfl, Nat.le_of_ble_eq_true rfl⟩ ⟨Nat.le_of_ble_eq_true rfl, Nat.le_of_ble_eq_true rfl⟩ hl.1 rfl rfl (Nat.le_of_ble_eq_true rfl) dd_Checker_checkSegments_67) hS (fun H locs hP hS => ?_)
  clear hq
  refine lv_iconst (v := 0) hx hb dd_Checker_checkSegments_70 (by decide) ?_
  refine lv_istore_n (lv' := [(1, .int (0 : Int32)), (0, .ref (ad 55))]) hx hb dd_Checker_checkSegments_71 rfl hl (by decide) rfl (fun ls hl => ?_)
  exact wj_Checker_checkSegments_72 htr C hne h hP hS (lv_sub hl [1, 0] rfl)
set_option maxHeartbeats 4000000 in
set_option maxRecDepth 100000 in
theorem wj_Checker_checkSegments_62 {p : Program} {l : Launch} {e : Env} {s : State} {m : MethodId} {args : Array Value} {below : List Frame} {meth : Method} {c : Code} {D : va_G} {ad : Nat → Nat} {ca : Nat → ClassId} {ads : List Nat} {fu : Nat} (htr : l.stackTraces = false) (C : xk_C D kx_cl (kx_ty ca) (kw_h ad ca) ads "ModuleHouse$Checker" prog_2_method_11_code 4 none p e s m args meth c) (hne : c.exceptionTable.isEmpty = true) {u' : xk_St} {r : (Unit ⊕ Nat)} {u : xk_St} {H : Heap} {locs : List Loc} {ls : Array Slot} (h : jb_Checker_checkSegments_62 fu   u = some (r, u')) (hP : va_P D kx_cl (kw_h ad ca u) H) (hS : va_S (xk_A ads s.heap.size) s.heap H locs) (hl : lv_has ls 4 [(0, .ref (ad 55))]) : W p l e rm_Checker_checkSegments s m args below meth c H locs 0 0 (xk_MQ below (xk_Qc D kx_cl (kw_h ad ca) ads (xo_v r) u') args s (xk_A ads s.heap.size)) (F0 m 62 ls []) := by
  have hx := C.1.1
  have hb := C.1.2.1
  have hok := C.2.2.1
  unfold jb_Checker_checkSegments_62 at h
  refine lv_iconst (v := 1) hx hb dd_Checker_checkSegments_62 (by decide) ?_
  refine lv_goto (tgt := 67) hx hb dd_Checker_checkSegments_63 (by decide) ?_
  exact wj_Checker_checkSegments_67 htr C hne h hP hS (lv_sub hl [0] rfl)
set_option maxHeartbeats 4000000 in
set_option maxRecDepth 100000 in
theorem wj_Checker_checkSegments_32 {p : Program} {l : Launch} {e : Env} {s : State} {m : MethodId} {args : Array Value} {below : List Frame} {meth : Method} {c : Code} {D : va_G} {ad : Nat → Nat} {ca : Nat → ClassId} {ads : List Nat} {fu : Nat} (htr : l.stackTraces = false) (C : xk_C D kx_cl (kx_ty ca) (kw_h ad ca) ads "ModuleHouse$Checker" prog_2_method_11_code 4 none p e s m args meth c) (hne : c.exceptionTable.isEmpty = true) {u' : xk_St} {r : (Unit ⊕ Nat)} {s0 : Int32} {u : xk_St} {H : Heap} {locs : List Loc} {ls : Array Slot} (h : jb_Checker_checkSegments_32 fu  s0 u = some (r, u')) (hP : va_P D kx_cl (kw_h ad ca u) H) (hS : va_S (xk_A ads s.heap.size) s.heap H locs) (hl : lv_has ls 4 [(0, .ref (ad 55))]) : W p l e rm_Checker_checkSegments s m args below meth c H locs 0 0 (xk_MQ below (xk_Qc D kx_cl (kw_h ad ca) ads (xo_v r) u') args s (xk_A ads s.heap.size)) (F0 m 32 ls [.int s0]) := by
  have hx := C.1.1
  have hb := C.1.2.1
  have hok := C.2.2.1
  unfold jb_Checker_checkSegments_32 at h
  rcases xp_try h with ⟨rx, u1, hq, h⟩ | ⟨kx, ux, hq, h⟩
  rotate_left
  · obtain ⟨rfl, rfl⟩ := xp_q h
    exact xk_up (xr_S (As := [.int s0]) (rest := []) C hP hS (ct_Checker_need htr hok hq) kq_Checker_60 ⟨rfl, rfl, Nat.le_of_ble_eq_true rfl, Nat.le_of_ble_eq_true rfl⟩ ⟨Nat.le_of_ble_eq_true rfl, Nat.le_of_ble_eq_true rfl⟩ hl.1 rfl rfl (Nat.le_of_ble_eq_true rfl) dd_Checker_checkSegments_32) hS hne C.2.2.2.2.2.2.1
  refine xk_goesV (xr_S (As := [.int s0]) (rest := []) C hP hS (ct_Checker_need htr hok hq) kq_Checker_60 ⟨rfl, rfl, Nat.le_of_ble_eq_true rfl, Nat.le_of_ble_eq_true rfl⟩ ⟨Nat.le_of_ble_eq_true rfl, Nat.le_of_ble_eq_true rfl⟩ hl.1 rfl rfl (Nat.le_of_ble_eq_true rfl) dd_Checker_checkSegments_32) hS (fun H locs hP hS => ?_)
  clear hq
  refine lv_aload_n hx hb dd_Checker_checkSegments_35 rfl (lv_at hl 0 rfl) ?_
  refine gf_h_Checker_55_module C hP dd_Checker_checkSegments_36 ?_
  refine gf_h_Checker_4_data C hP dd_Checker_checkSegments_39 ?_
  refine gf_h_Checker_49_count C hP dd_Checker_checkSegments_42 ?_
  refine lv_if_eq (tgt := 62) hx hb dd_Checker_checkSegments_45 (by decide) (fun hc => ?_) (fun hc => ?_)
  · have h := xp_t hc h
    exact wj_Checker_checkSegments_62 htr C hne h hP hS (lv_sub hl [0] rfl)
  · have h := xp_f hc h
    refine lv_aload_n hx hb dd_Checker_checkSegments_48 rfl (lv_at hl 0 rfl) ?_
    refine gf_h_Checker_55_module C hP dd_Checker_checkSegments_49 ?_
    refine gf_h_Checker_4_memories C hP dd_Checker_checkSegments_52 ?_
    refine gf_h_Checker_29_count C hP dd_Checker_checkSegments_55 ?_
    refine lv_iconst (v := 1) hx hb dd_Checker_checkSegments_58 (by decide) ?_
    refine lv_icmp_ne (tgt := 66) hx hb dd_Checker_checkSegments_59 (by decide) (fun hc => ?_) (fun hc => ?_)
    · have h := xp_f hc h
      refine lv_iconst (v := 0) hx hb dd_Checker_checkSegments_66 (by decide) ?_
      exact wj_Checker_checkSegments_67 htr C hne h hP hS (lv_sub hl [0] rfl)
    · have h := xp_t hc h
      exact wj_Checker_checkSegments_62 htr C hne h hP hS (lv_sub hl [0] rfl)
set_option maxHeartbeats 4000000 in
set_option maxRecDepth 100000 in
theorem wj_Checker_checkSegments_27 {p : Program} {l : Launch} {e : Env} {s : State} {m : MethodId} {args : Array Value} {below : List Frame} {meth : Method} {c : Code} {D : va_G} {ad : Nat → Nat} {ca : Nat → ClassId} {ads : List Nat} {fu : Nat} (htr : l.stackTraces = false) (C : xk_C D kx_cl (kx_ty ca) (kw_h ad ca) ads "ModuleHouse$Checker" prog_2_method_11_code 4 none p e s m args meth c) (hne : c.exceptionTable.isEmpty = true) {u' : xk_St} {r : (Unit ⊕ Nat)} {u : xk_St} {H : Heap} {locs : List Loc} {ls : Array Slot} (h : jb_Checker_checkSegments_27 fu   u = some (r, u')) (hP : va_P D kx_cl (kw_h ad ca u) H) (hS : va_S (xk_A ads s.heap.size) s.heap H locs) (hl : lv_has ls 4 [(0, .ref (ad 55))]) : W p l e rm_Checker_checkSegments s m args below meth c H locs 0 0 (xk_MQ below (xk_Qc D kx_cl (kw_h ad ca) ads (xo_v r) u') args s (xk_A ads s.heap.size)) (F0 m 27 ls []) := by
  have hx := C.1.1
  have hb := C.1.2.1
  have hok := C.2.2.1
  unfold jb_Checker_checkSegments_27 at h
  refine lv_iconst (v := 1) hx hb dd_Checker_checkSegments_27 (by decide) ?_
  refine lv_goto (tgt := 32) hx hb dd_Checker_checkSegments_28 (by decide) ?_
  exact wj_Checker_checkSegments_32 htr C hne h hP hS (lv_sub hl [0] rfl)
set_option maxHeartbeats 4000000 in
set_option maxRecDepth 100000 in
theorem ct_Checker_checkSegments {l : Launch} {D : va_G} {ad : Nat → Nat} {ca : Nat → ClassId} {ads : List Nat} (htr : l.stackTraces = false) (hok : xk_ok (kw_h ad ca) ads) {fu : Nat} {u u' : xk_St} {r : (Unit ⊕ Nat)} (h : fm_Checker_checkSegments fu u = some (r, u')) :
    ∀ sz, xk_Met l ⟨"ModuleHouse$Checker", "checkSegments", "()V"⟩ (Cond.code ⟨"ModuleHouse$Checker", "checkSegments", "()V"⟩ prog_2_method_11_code 4 none :: xk_gd) rm_Checker_checkSegments (xk_Pc D kx_cl (kx_ty ca) (kw_h ad ca) ads xk_F sz [.ref (ad 55)] u) (xk_Qc D kx_cl (kw_h ad ca) ads (xo_v r) u') (xk_A ads sz) := by
  unfold fm_Checker_checkSegments at h
  refine xk_con (by decide) htr hok (Nat.le_of_ble_eq_true rfl) (fun p e s m below meth c ls C hne hl hP => ?_)
  have hx := C.1.1
  have hb := C.1.2.1
  have hS : va_S (xk_A ads s.heap.size) s.heap s.heap [] := va_S.rf
  have hl : lv_has ls 4 [(0, .ref (ad 55))] := hl
  refine lv_aload_n hx hb dd_Checker_checkSegments_0 rfl (lv_at hl 0 rfl) ?_
  refine gf_h_Checker_55_module C hP dd_Checker_checkSegments_1 ?_
  refine gf_h_Checker_4_elements C hP dd_Checker_checkSegments_4 ?_
  refine gf_h_Checker_44_count C hP dd_Checker_checkSegments_7 ?_
  refine lv_if_eq (tgt := 27) hx hb dd_Checker_checkSegments_10 (by decide) (fun hc => ?_) (fun hc => ?_)
  · have h := xp_t hc h
    exact wj_Checker_checkSegments_27 htr C hne h hP hS (lv_sub hl [0] rfl)
  · have h := xp_f hc h
    refine lv_aload_n hx hb dd_Checker_checkSegments_13 rfl (lv_at hl 0 rfl) ?_
    refine gf_h_Checker_55_module C hP dd_Checker_checkSegments_14 ?_
    refine gf_h_Checker_4_tables C hP dd_Checker_checkSegments_17 ?_
    refine gf_h_Checker_24_count C hP dd_Checker_checkSegments_20 ?_
    refine lv_iconst (v := 1) hx hb dd_Checker_checkSegments_23 (by decide) ?_
    refine lv_icmp_ne (tgt := 31) hx hb dd_Checker_checkSegments_24 (by decide) (fun hc => ?_) (fun hc => ?_)
    · have h := xp_f hc h
      refine lv_iconst (v := 0) hx hb dd_Checker_checkSegments_31 (by decide) ?_
      exact wj_Checker_checkSegments_32 htr C hne h hP hS (lv_sub hl [0] rfl)
    · have h := xp_t hc h
      exact wj_Checker_checkSegments_27 htr C hne h hP hS (lv_sub hl [0] rfl)
abbrev rm_Checker_checkParts : Room := { frames := 9, cells := 1, slots := 6, locals := 164 }
noncomputable def jb_Checker_checkParts_128 (fu : Nat) (s0 : Int32) (u : xk_St) : Option ((Unit ⊕ Nat) × xk_St) :=
  (xs_try (fm_Checker_need s0 u) fun _ u3 => xs_try (fm_Checker_checkTypes fu u3) fun _ u4 => xs_try (fm_Checker_checkFunctions fu u4) fun _ u5 => xs_try (fm_Checker_checkLimits (64 : Int32) u5) fun _ u6 => xs_try (fm_Checker_checkLimits__h55_29 (16 : Int32) u6) fun _ u7 => xs_try (fm_Checker_checkGlobals fu u7) fun _ u8 => xs_try (fm_Checker_checkExports fu u8) fun _ u9 => xs_try (fm_Checker_checkSegments fu u9) fun _ u10 => some (.inl (()), u10))
noncomputable def jb_Checker_checkParts_100 (fu : Nat) (s0 : Int32) (u : xk_St) : Option ((Unit ⊕ Nat) × xk_St) :=
  (xs_try (fm_Checker_need s0 u) fun _ u2 => if (u2.1 5) = (u2.1 10) then (jb_Checker_checkParts_128 fu (1 : Int32) u2) else (jb_Checker_checkParts_128 fu (0 : Int32) u2))
noncomputable def jb_Checker_checkParts_99 (fu : Nat) (u : xk_St) : Option ((Unit ⊕ Nat) × xk_St) :=
  jb_Checker_checkParts_100 fu (0 : Int32) u
noncomputable def jb_Checker_checkParts_47 (fu : Nat) (s0 : Int32) (u : xk_St) : Option ((Unit ⊕ Nat) × xk_St) :=
  (xs_try (fm_Checker_need s0 u) fun _ u1 => if (64 : Int32) < (u1.1 14) then (jb_Checker_checkParts_99 fu u1) else (if (64 : Int32) < (u1.1 15) then (jb_Checker_checkParts_99 fu u1) else (if (64 : Int32) < (u1.1 16) then (jb_Checker_checkParts_99 fu u1) else (jb_Checker_checkParts_100 fu (1 : Int32) u1))))
noncomputable def jb_Checker_checkParts_46 (fu : Nat) (u : xk_St) : Option ((Unit ⊕ Nat) × xk_St) :=
  jb_Checker_checkParts_47 fu (0 : Int32) u
noncomputable def fm_Checker_checkParts (fu : Nat) (u : xk_St) : Option ((Unit ⊕ Nat) × xk_St) :=
  if (64 : Int32) < (u.1 7) then (jb_Checker_checkParts_46 fu u) else (if (64 : Int32) < (u.1 10) then (jb_Checker_checkParts_46 fu u) else (if (64 : Int32) < (u.1 13) then (jb_Checker_checkParts_46 fu u) else (jb_Checker_checkParts_47 fu (1 : Int32) u)))
set_option maxHeartbeats 4000000 in
set_option maxRecDepth 100000 in
theorem wj_Checker_checkParts_128 {p : Program} {l : Launch} {e : Env} {s : State} {m : MethodId} {args : Array Value} {below : List Frame} {meth : Method} {c : Code} {D : va_G} {ad : Nat → Nat} {ca : Nat → ClassId} {ads : List Nat} {fu : Nat} (htr : l.stackTraces = false) (C : xk_C D kx_cl (kx_ty ca) (kw_h ad ca) ads "ModuleHouse$Checker" prog_2_method_3_code 1 none p e s m args meth c) (hne : c.exceptionTable.isEmpty = true) {u' : xk_St} {r : (Unit ⊕ Nat)} {s0 : Int32} {u : xk_St} {H : Heap} {locs : List Loc} {ls : Array Slot} (h : jb_Checker_checkParts_128 fu  s0 u = some (r, u')) (hP : va_P D kx_cl (kw_h ad ca u) H) (hS : va_S (xk_A ads s.heap.size) s.heap H locs) (hl : lv_has ls 1 [(0, .ref (ad 55))]) : W p l e rm_Checker_checkParts s m args below meth c H locs 0 0 (xk_MQ below (xk_Qc D kx_cl (kw_h ad ca) ads (xo_v r) u') args s (xk_A ads s.heap.size)) (F0 m 128 ls [.int s0]) := by
  have hx := C.1.1
  have hb := C.1.2.1
  have hok := C.2.2.1
  unfold jb_Checker_checkParts_128 at h
  rcases xp_try h with ⟨rx, u3, hq, h⟩ | ⟨kx, ux, hq, h⟩
  rotate_left
  · obtain ⟨rfl, rfl⟩ := xp_q h
    exact xk_up (xr_S (As := [.int s0]) (rest := []) C hP hS (ct_Checker_need htr hok hq) kq_Checker_60 ⟨rfl, rfl, Nat.le_of_ble_eq_true rfl, Nat.le_of_ble_eq_true rfl⟩ ⟨Nat.le_of_ble_eq_true rfl, Nat.le_of_ble_eq_true rfl⟩ hl.1 rfl rfl (Nat.le_of_ble_eq_true rfl) dd_Checker_checkParts_128) hS hne C.2.2.2.2.2.2.1
  refine xk_goesV (xr_S (As := [.int s0]) (rest := []) C hP hS (ct_Checker_need htr hok hq) kq_Checker_60 ⟨rfl, rfl, Nat.le_of_ble_eq_true rfl, Nat.le_of_ble_eq_true rfl⟩ ⟨Nat.le_of_ble_eq_true rfl, Nat.le_of_ble_eq_true rfl⟩ hl.1 rfl rfl (Nat.le_of_ble_eq_true rfl) dd_Checker_checkParts_128) hS (fun H locs hP hS => ?_)
  clear hq
  refine lv_aload_n hx hb dd_Checker_checkParts_131 rfl (lv_at hl 0 rfl) ?_
  rcases xp_try h with ⟨rx, u4, hq, h⟩ | ⟨kx, ux, hq, h⟩
  rotate_left
  · obtain ⟨rfl, rfl⟩ := xp_q h
    exact xk_up (xr_V (As := []) (rest := []) C hP hS (ct_Checker_checkTypes htr hok hq) kq_Checker_76 55 1 rfl rfl ⟨rfl, rfl, Nat.le_of_ble_eq_true rfl, Nat.le_of_ble_eq_true rfl⟩ ⟨Nat.le_of_ble_eq_true rfl, Nat.le_of_ble_eq_true rfl⟩ hl.1 rfl rfl (Nat.le_of_ble_eq_true rfl) dd_Checker_checkParts_132) hS hne C.2.2.2.2.2.2.1
  refine xk_goesV (xr_V (As := []) (rest := []) C hP hS (ct_Checker_checkTypes htr hok hq) kq_Checker_76 55 1 rfl rfl ⟨rfl, rfl, Nat.le_of_ble_eq_true rfl, Nat.le_of_ble_eq_true rfl⟩ ⟨Nat.le_of_ble_eq_true rfl, Nat.le_of_ble_eq_true rfl⟩ hl.1 rfl rfl (Nat.le_of_ble_eq_true rfl) dd_Checker_checkParts_132) hS (fun H locs hP hS => ?_)
  clear hq
  refine lv_aload_n hx hb dd_Checker_checkParts_135 rfl (lv_at hl 0 rfl) ?_
  rcases xp_try h with ⟨rx, u5, hq, h⟩ | ⟨kx, ux, hq, h⟩
  rotate_left
  · obtain ⟨rfl, rfl⟩ := xp_q h
    exact xk_up (xr_V (As := []) (rest := []) C hP hS (ct_Checker_checkFunctions htr hok hq) kq_Checker_79 55 1 rfl rfl ⟨rfl, rfl, Nat.le_of_ble_eq_true rfl, Nat.le_of_ble_eq_true rfl⟩ ⟨Nat.le_of_ble_eq_true rfl, Nat.le_of_ble_eq_true rfl⟩ hl.1 rfl rfl (Nat.le_of_ble_eq_true rfl) dd_Checker_checkParts_136) hS hne C.2.2.2.2.2.2.1
  refine xk_goesV (xr_V (As := []) (rest := []) C hP hS (ct_Checker_checkFunctions htr hok hq) kq_Checker_79 55 1 rfl rfl ⟨rfl, rfl, Nat.le_of_ble_eq_true rfl, Nat.le_of_ble_eq_true rfl⟩ ⟨Nat.le_of_ble_eq_true rfl, Nat.le_of_ble_eq_true rfl⟩ hl.1 rfl rfl (Nat.le_of_ble_eq_true rfl) dd_Checker_checkParts_136) hS (fun H locs hP hS => ?_)
  clear hq
  refine lv_aload_n hx hb dd_Checker_checkParts_139 rfl (lv_at hl 0 rfl) ?_
  refine lv_aload_n hx hb dd_Checker_checkParts_140 rfl (lv_at hl 0 rfl) ?_
  refine gf_h_Checker_55_module C hP dd_Checker_checkParts_141 ?_
  refine gf_h_Checker_4_tables C hP dd_Checker_checkParts_144 ?_
  refine lv_bipush (v := 64) hx hb dd_Checker_checkParts_147 (by decide) ?_
  rcases xp_try h with ⟨rx, u6, hq, h⟩ | ⟨kx, ux, hq, h⟩
  rotate_left
  · obtain ⟨rfl, rfl⟩ := xp_q h
    exact xk_up (xr_V (As := [.ref (ad 24), .int (64 : Int32)]) (rest := []) C hP hS (ct_Checker_checkLimits htr hok hq) kq_Checker_85 55 1 rfl rfl ⟨rfl, rfl, Nat.le_of_ble_eq_true rfl, Nat.le_of_ble_eq_true rfl⟩ ⟨Nat.le_of_ble_eq_true rfl, Nat.le_of_ble_eq_true rfl⟩ hl.1 rfl rfl (Nat.le_of_ble_eq_true rfl) dd_Checker_checkParts_149) hS hne C.2.2.2.2.2.2.1
  refine xk_goesV (xr_V (As := [.ref (ad 24), .int (64 : Int32)]) (rest := []) C hP hS (ct_Checker_checkLimits htr hok hq) kq_Checker_85 55 1 rfl rfl ⟨rfl, rfl, Nat.le_of_ble_eq_true rfl, Nat.le_of_ble_eq_true rfl⟩ ⟨Nat.le_of_ble_eq_true rfl, Nat.le_of_ble_eq_true rfl⟩ hl.1 rfl rfl (Nat.le_of_ble_eq_true rfl) dd_Checker_checkParts_149) hS (fun H locs hP hS => ?_)
  clear hq
  refine lv_aload_n hx hb dd_Checker_checkParts_152 rfl (lv_at hl 0 rfl) ?_
  refine lv_aload_n hx hb dd_Checker_checkParts_153 rfl (lv_at hl 0 rfl) ?_
  refine gf_h_Checker_55_module C hP dd_Checker_checkParts_154 ?_
  refine gf_h_Checker_4_memories C hP dd_Checker_checkParts_157 ?_
  refine lv_bipush (v := 16) hx hb dd_Checker_checkParts_160 (by decide) ?_
  rcases xp_try h with ⟨rx, u7, hq, h⟩ | ⟨kx, ux, hq, h⟩
  rotate_left
  · obtain ⟨rfl, rfl⟩ := xp_q h
    exact xk_up (xr_V (As := [.ref (ad 29), .int (16 : Int32)]) (rest := []) C hP hS (ct_Checker_checkLimits__h55_29 htr hok hq) kq_Checker_85 55 1 rfl rfl ⟨rfl, rfl, Nat.le_of_ble_eq_true rfl, Nat.le_of_ble_eq_true rfl⟩ ⟨Nat.le_of_ble_eq_true rfl, Nat.le_of_ble_eq_true rfl⟩ hl.1 rfl rfl (Nat.le_of_ble_eq_true rfl) dd_Checker_checkParts_162) hS hne C.2.2.2.2.2.2.1
  refine xk_goesV (xr_V (As := [.ref (ad 29), .int (16 : Int32)]) (rest := []) C hP hS (ct_Checker_checkLimits__h55_29 htr hok hq) kq_Checker_85 55 1 rfl rfl ⟨rfl, rfl, Nat.le_of_ble_eq_true rfl, Nat.le_of_ble_eq_true rfl⟩ ⟨Nat.le_of_ble_eq_true rfl, Nat.le_of_ble_eq_true rfl⟩ hl.1 rfl rfl (Nat.le_of_ble_eq_true rfl) dd_Checker_checkParts_162) hS (fun H locs hP hS => ?_)
  clear hq
  refine lv_aload_n hx hb dd_Checker_checkParts_165 rfl (lv_at hl 0 rfl) ?_
  rcases xp_try h with ⟨rx, u8, hq, h⟩ | ⟨kx, ux, hq, h⟩
  rotate_left
  · obtain ⟨rfl, rfl⟩ := xp_q h
    exact xk_up (xr_V (As := []) (rest := []) C hP hS (ct_Checker_checkGlobals htr hok hq) kq_Checker_92 55 1 rfl rfl ⟨rfl, rfl, Nat.le_of_ble_eq_true rfl, Nat.le_of_ble_eq_true rfl⟩ ⟨Nat.le_of_ble_eq_true rfl, Nat.le_of_ble_eq_true rfl⟩ hl.1 rfl rfl (Nat.le_of_ble_eq_true rfl) dd_Checker_checkParts_166) hS hne C.2.2.2.2.2.2.1
  refine xk_goesV (xr_V (As := []) (rest := []) C hP hS (ct_Checker_checkGlobals htr hok hq) kq_Checker_92 55 1 rfl rfl ⟨rfl, rfl, Nat.le_of_ble_eq_true rfl, Nat.le_of_ble_eq_true rfl⟩ ⟨Nat.le_of_ble_eq_true rfl, Nat.le_of_ble_eq_true rfl⟩ hl.1 rfl rfl (Nat.le_of_ble_eq_true rfl) dd_Checker_checkParts_166) hS (fun H locs hP hS => ?_)
  clear hq
  refine lv_aload_n hx hb dd_Checker_checkParts_169 rfl (lv_at hl 0 rfl) ?_
  rcases xp_try h with ⟨rx, u9, hq, h⟩ | ⟨kx, ux, hq, h⟩
  rotate_left
  · obtain ⟨rfl, rfl⟩ := xp_q h
    exact xk_up (xr_V (As := []) (rest := []) C hP hS (ct_Checker_checkExports htr hok hq) kq_Checker_95 55 1 rfl rfl ⟨rfl, rfl, Nat.le_of_ble_eq_true rfl, Nat.le_of_ble_eq_true rfl⟩ ⟨Nat.le_of_ble_eq_true rfl, Nat.le_of_ble_eq_true rfl⟩ hl.1 rfl rfl (Nat.le_of_ble_eq_true rfl) dd_Checker_checkParts_170) hS hne C.2.2.2.2.2.2.1
  refine xk_goesV (xr_V (As := []) (rest := []) C hP hS (ct_Checker_checkExports htr hok hq) kq_Checker_95 55 1 rfl rfl ⟨rfl, rfl, Nat.le_of_ble_eq_true rfl, Nat.le_of_ble_eq_true rfl⟩ ⟨Nat.le_of_ble_eq_true rfl, Nat.le_of_ble_eq_true rfl⟩ hl.1 rfl rfl (Nat.le_of_ble_eq_true rfl) dd_Checker_checkParts_170) hS (fun H locs hP hS => ?_)
  clear hq
  refine lv_aload_n hx hb dd_Checker_checkParts_173 rfl (lv_at hl 0 rfl) ?_
  rcases xp_try h with ⟨rx, u10, hq, h⟩ | ⟨kx, ux, hq, h⟩
  rotate_left
  · obtain ⟨rfl, rfl⟩ := xp_q h
    exact xk_up (xr_V (As := []) (rest := []) C hP hS (ct_Checker_checkSegments htr hok hq) kq_Checker_98 55 1 rfl rfl ⟨rfl, rfl, Nat.le_of_ble_eq_true rfl, Nat.le_of_ble_eq_true rfl⟩ ⟨Nat.le_of_ble_eq_true rfl, Nat.le_of_ble_eq_true rfl⟩ hl.1 rfl rfl (Nat.le_of_ble_eq_true rfl) dd_Checker_checkParts_174) hS hne C.2.2.2.2.2.2.1
  refine xk_goesV (xr_V (As := []) (rest := []) C hP hS (ct_Checker_checkSegments htr hok hq) kq_Checker_98 55 1 rfl rfl ⟨rfl, rfl, Nat.le_of_ble_eq_true rfl, Nat.le_of_ble_eq_true rfl⟩ ⟨Nat.le_of_ble_eq_true rfl, Nat.le_of_ble_eq_true rfl⟩ hl.1 rfl rfl (Nat.le_of_ble_eq_true rfl) dd_Checker_checkParts_174) hS (fun H locs hP hS => ?_)
  clear hq
  obtain ⟨rfl, rfl⟩ := xp_r h
  exact xr_vret C hP hS dd_Checker_checkParts_177
set_option maxHeartbeats 4000000 in
set_option maxRecDepth 100000 in
theorem wj_Checker_checkParts_100 {p : Program} {l : Launch} {e : Env} {s : State} {m : MethodId} {args : Array Value} {below : List Frame} {meth : Method} {c : Code} {D : va_G} {ad : Nat → Nat} {ca : Nat → ClassId} {ads : List Nat} {fu : Nat} (htr : l.stackTraces = false) (C : xk_C D kx_cl (kx_ty ca) (kw_h ad ca) ads "ModuleHouse$Checker" prog_2_method_3_code 1 none p e s m args meth c) (hne : c.exceptionTable.isEmpty = true) {u' : xk_St} {r : (Unit ⊕ Nat)} {s0 : Int32} {u : xk_St} {H : Heap} {locs : List Loc} {ls : Array Slot} (h : jb_Checker_checkParts_100 fu  s0 u = some (r, u')) (hP : va_P D kx_cl (kw_h ad ca u) H) (hS : va_S (xk_A ads s.heap.size) s.heap H locs) (hl : lv_has ls 1 [(0, .ref (ad 55))]) : W p l e rm_Checker_checkParts s m args below meth c H locs 0 0 (xk_MQ below (xk_Qc D kx_cl (kw_h ad ca) ads (xo_v r) u') args s (xk_A ads s.heap.size)) (F0 m 100 ls [.int s0]) := by
  have hx := C.1.1
  have hb := C.1.2.1
  have hok := C.2.2.1
  unfold jb_Checker_checkParts_100 at h
  rcases xp_try h with ⟨rx, u2, hq, h⟩ | ⟨kx, ux, hq, h⟩
  rotate_left
  · obtain ⟨rfl, rfl⟩ := xp_q h
    exact xk_up (xr_S (As := [.int s0]) (rest := []) C hP hS (ct_Checker_need htr hok hq) kq_Checker_60 ⟨rfl, rfl, Nat.le_of_ble_eq_true rfl, Nat.le_of_ble_eq_true rfl⟩ ⟨Nat.le_of_ble_eq_true rfl, Nat.le_of_ble_eq_true rfl⟩ hl.1 rfl rfl (Nat.le_of_ble_eq_true rfl) dd_Checker_checkParts_100) hS hne C.2.2.2.2.2.2.1
  refine xk_goesV (xr_S (As := [.int s0]) (rest := []) C hP hS (ct_Checker_need htr hok hq) kq_Checker_60 ⟨rfl, rfl, Nat.le_of_ble_eq_true rfl, Nat.le_of_ble_eq_true rfl⟩ ⟨Nat.le_of_ble_eq_true rfl, Nat.le_of_ble_eq_true rfl⟩ hl.1 rfl rfl (Nat.le_of_ble_eq_true rfl) dd_Checker_checkParts_100) hS (fun H locs hP hS => ?_)
  clear hq
  refine lv_aload_n hx hb dd_Checker_checkParts_103 rfl (lv_at hl 0 rfl) ?_
  refine gf_h_Checker_55_module C hP dd_Checker_checkParts_104 ?_
  refine gf_h_Checker_4_bodies C hP dd_Checker_checkParts_107 ?_
  refine lv_aload_n hx hb dd_Checker_checkParts_110 rfl (lv_at hl 0 rfl) ?_
  refine gf_h_Checker_55_module C hP dd_Checker_checkParts_111 ?_
  refine gf_h_Checker_4_functions C hP dd_Checker_checkParts_114 ?_
  refine gf_h_Checker_19_count C hP dd_Checker_checkParts_117 ?_
  refine lv_icmp_ne (tgt := 127) hx hb dd_Checker_checkParts_120 (by decide) (fun hc => ?_) (fun hc => ?_)
  · have h := xp_f hc h
    refine lv_iconst (v := 0) hx hb dd_Checker_checkParts_127 (by decide) ?_
    exact wj_Checker_checkParts_128 htr C hne h hP hS (lv_sub hl [0] rfl)
  · have h := xp_t hc h
    refine lv_iconst (v := 1) hx hb dd_Checker_checkParts_123 (by decide) ?_
    refine lv_goto (tgt := 128) hx hb dd_Checker_checkParts_124 (by decide) ?_
    exact wj_Checker_checkParts_128 htr C hne h hP hS (lv_sub hl [0] rfl)
set_option maxHeartbeats 4000000 in
set_option maxRecDepth 100000 in
theorem wj_Checker_checkParts_99 {p : Program} {l : Launch} {e : Env} {s : State} {m : MethodId} {args : Array Value} {below : List Frame} {meth : Method} {c : Code} {D : va_G} {ad : Nat → Nat} {ca : Nat → ClassId} {ads : List Nat} {fu : Nat} (htr : l.stackTraces = false) (C : xk_C D kx_cl (kx_ty ca) (kw_h ad ca) ads "ModuleHouse$Checker" prog_2_method_3_code 1 none p e s m args meth c) (hne : c.exceptionTable.isEmpty = true) {u' : xk_St} {r : (Unit ⊕ Nat)} {u : xk_St} {H : Heap} {locs : List Loc} {ls : Array Slot} (h : jb_Checker_checkParts_99 fu   u = some (r, u')) (hP : va_P D kx_cl (kw_h ad ca u) H) (hS : va_S (xk_A ads s.heap.size) s.heap H locs) (hl : lv_has ls 1 [(0, .ref (ad 55))]) : W p l e rm_Checker_checkParts s m args below meth c H locs 0 0 (xk_MQ below (xk_Qc D kx_cl (kw_h ad ca) ads (xo_v r) u') args s (xk_A ads s.heap.size)) (F0 m 99 ls []) := by
  have hx := C.1.1
  have hb := C.1.2.1
  have hok := C.2.2.1
  unfold jb_Checker_checkParts_99 at h
  refine lv_iconst (v := 0) hx hb dd_Checker_checkParts_99 (by decide) ?_
  exact wj_Checker_checkParts_100 htr C hne h hP hS (lv_sub hl [0] rfl)
set_option maxHeartbeats 4000000 in
set_option maxRecDepth 100000 in
theorem wj_Checker_checkParts_47 {p : Program} {l : Launch} {e : Env} {s : State} {m : MethodId} {args : Array Value} {below : List Frame} {meth : Method} {c : Code} {D : va_G} {ad : Nat → Nat} {ca : Nat → ClassId} {ads : List Nat} {fu : Nat} (htr : l.stackTraces = false) (C : xk_C D kx_cl (kx_ty ca) (kw_h ad ca) ads "ModuleHouse$Checker" prog_2_method_3_code 1 none p e s m args meth c) (hne : c.exceptionTable.isEmpty = true) {u' : xk_St} {r : (Unit ⊕ Nat)} {s0 : Int32} {u : xk_St} {H : Heap} {locs : List Loc} {ls : Array Slot} (h : jb_Checker_checkParts_47 fu  s0 u = some (r, u')) (hP : va_P D kx_cl (kw_h ad ca u) H) (hS : va_S (xk_A ads s.heap.size) s.heap H locs) (hl : lv_has ls 1 [(0, .ref (ad 55))]) : W p l e rm_Checker_checkParts s m args below meth c H locs 0 0 (xk_MQ below (xk_Qc D kx_cl (kw_h ad ca) ads (xo_v r) u') args s (xk_A ads s.heap.size)) (F0 m 47 ls [.int s0]) := by
  have hx := C.1.1
  have hb := C.1.2.1
  have hok := C.2.2.1
  unfold jb_Checker_checkParts_47 at h
  rcases xp_try h with ⟨rx, u1, hq, h⟩ | ⟨kx, ux, hq, h⟩
  rotate_left
  · obtain ⟨rfl, rfl⟩ := xp_q h
    exact xk_up (xr_S (As := [.int s0]) (rest := []) C hP hS (ct_Checker_need htr hok hq) kq_Checker_60 ⟨rfl, rfl, Nat.le_of_ble_eq_true rfl, Nat.le_of_ble_eq_true rfl⟩ ⟨Nat.le_of_ble_eq_true rfl, Nat.le_of_ble_eq_true rfl⟩ hl.1 rfl rfl (Nat.le_of_ble_eq_true rfl) dd_Checker_checkParts_47) hS hne C.2.2.2.2.2.2.1
  refine xk_goesV (xr_S (As := [.int s0]) (rest := []) C hP hS (ct_Checker_need htr hok hq) kq_Checker_60 ⟨rfl, rfl, Nat.le_of_ble_eq_true rfl, Nat.le_of_ble_eq_true rfl⟩ ⟨Nat.le_of_ble_eq_true rfl, Nat.le_of_ble_eq_true rfl⟩ hl.1 rfl rfl (Nat.le_of_ble_eq_true rfl) dd_Checker_checkParts_47) hS (fun H locs hP hS => ?_)
  clear hq
  refine lv_aload_n hx hb dd_Checker_checkParts_50 rfl (lv_at hl 0 rfl) ?_
  refine gf_h_Checker_55_module C hP dd_Checker_checkParts_51 ?_
  refine gf_h_Checker_4_exports C hP dd_Checker_checkParts_54 ?_
  refine gf_h_Checker_39_count C hP dd_Checker_checkParts_57 ?_
  refine lv_bipush (v := 64) hx hb dd_Checker_checkParts_60 (by decide) ?_
  refine lv_icmp_gt (tgt := 99) hx hb dd_Checker_checkParts_62 (by decide) (fun hc => ?_) (fun hc => ?_)
  · have h := xp_t hc h
    exact wj_Checker_checkParts_99 htr C hne h hP hS (lv_sub hl [0] rfl)
  · have h := xp_f hc h
    refine lv_aload_n hx hb dd_Checker_checkParts_65 rfl (lv_at hl 0 rfl) ?_
    refine gf_h_Checker_55_module C hP dd_Checker_checkParts_66 ?_
    refine gf_h_Checker_4_elements C hP dd_Checker_checkParts_69 ?_
    refine gf_h_Checker_44_count C hP dd_Checker_checkParts_72 ?_
    refine lv_bipush (v := 64) hx hb dd_Checker_checkParts_75 (by decide) ?_
    refine lv_icmp_gt (tgt := 99) hx hb dd_Checker_checkParts_77 (by decide) (fun hc => ?_) (fun hc => ?_)
    · have h := xp_t hc h
      exact wj_Checker_checkParts_99 htr C hne h hP hS (lv_sub hl [0] rfl)
    · have h := xp_f hc h
      refine lv_aload_n hx hb dd_Checker_checkParts_80 rfl (lv_at hl 0 rfl) ?_
      refine gf_h_Checker_55_module C hP dd_Checker_checkParts_81 ?_
      refine gf_h_Checker_4_data C hP dd_Checker_checkParts_84 ?_
      refine gf_h_Checker_49_count C hP dd_Checker_checkParts_87 ?_
      refine lv_bipush (v := 64) hx hb dd_Checker_checkParts_90 (by decide) ?_
      refine lv_icmp_gt (tgt := 99) hx hb dd_Checker_checkParts_92 (by decide) (fun hc => ?_) (fun hc => ?_)
      · have h := xp_t hc h
        exact wj_Checker_checkParts_99 htr C hne h hP hS (lv_sub hl [0] rfl)
      · have h := xp_f hc h
        refine lv_iconst (v := 1) hx hb dd_Checker_checkParts_95 (by decide) ?_
        refine lv_goto (tgt := 100) hx hb dd_Checker_checkParts_96 (by decide) ?_
        exact wj_Checker_checkParts_100 htr C hne h hP hS (lv_sub hl [0] rfl)
set_option maxHeartbeats 4000000 in
set_option maxRecDepth 100000 in
theorem wj_Checker_checkParts_46 {p : Program} {l : Launch} {e : Env} {s : State} {m : MethodId} {args : Array Value} {below : List Frame} {meth : Method} {c : Code} {D : va_G} {ad : Nat → Nat} {ca : Nat → ClassId} {ads : List Nat} {fu : Nat} (htr : l.stackTraces = false) (C : xk_C D kx_cl (kx_ty ca) (kw_h ad ca) ads "ModuleHouse$Checker" prog_2_method_3_code 1 none p e s m args meth c) (hne : c.exceptionTable.isEmpty = true) {u' : xk_St} {r : (Unit ⊕ Nat)} {u : xk_St} {H : Heap} {locs : List Loc} {ls : Array Slot} (h : jb_Checker_checkParts_46 fu   u = some (r, u')) (hP : va_P D kx_cl (kw_h ad ca u) H) (hS : va_S (xk_A ads s.heap.size) s.heap H locs) (hl : lv_has ls 1 [(0, .ref (ad 55))]) : W p l e rm_Checker_checkParts s m args below meth c H locs 0 0 (xk_MQ below (xk_Qc D kx_cl (kw_h ad ca) ads (xo_v r) u') args s (xk_A ads s.heap.size)) (F0 m 46 ls []) := by
  have hx := C.1.1
  have hb := C.1.2.1
  have hok := C.2.2.1
  unfold jb_Checker_checkParts_46 at h
  refine lv_iconst (v := 0) hx hb dd_Checker_checkParts_46 (by decide) ?_
  exact wj_Checker_checkParts_47 htr C hne h hP hS (lv_sub hl [0] rfl)
set_option maxHeartbeats 4000000 in
set_option maxRecDepth 100000 in
theorem ct_Checker_checkParts {l : Launch} {D : va_G} {ad : Nat → Nat} {ca : Nat → ClassId} {ads : List Nat} (htr : l.stackTraces = false) (hok : xk_ok (kw_h ad ca) ads) {fu : Nat} {u u' : xk_St} {r : (Unit ⊕ Nat)} (h : fm_Checker_checkParts fu u = some (r, u')) :
    ∀ sz, xk_Met l ⟨"ModuleHouse$Checker", "checkParts", "()V"⟩ (Cond.code ⟨"ModuleHouse$Checker", "checkParts", "()V"⟩ prog_2_method_3_code 1 none :: xk_gd) rm_Checker_checkParts (xk_Pc D kx_cl (kx_ty ca) (kw_h ad ca) ads xk_F sz [.ref (ad 55)] u) (xk_Qc D kx_cl (kw_h ad ca) ads (xo_v r) u') (xk_A ads sz) := by
  unfold fm_Checker_checkParts at h
  refine xk_con (by decide) htr hok (Nat.le_of_ble_eq_true rfl) (fun p e s m below meth c ls C hne hl hP => ?_)
  have hx := C.1.1
  have hb := C.1.2.1
  have hS : va_S (xk_A ads s.heap.size) s.heap s.heap [] := va_S.rf
  have hl : lv_has ls 1 [(0, .ref (ad 55))] := hl
  refine lv_aload_n hx hb dd_Checker_checkParts_0 rfl (lv_at hl 0 rfl) ?_
  refine gf_h_Checker_55_types C hP dd_Checker_checkParts_1 ?_
  refine gf_h_Checker_6_count C hP dd_Checker_checkParts_4 ?_
  refine lv_bipush (v := 64) hx hb dd_Checker_checkParts_7 (by decide) ?_
  refine lv_icmp_gt (tgt := 46) hx hb dd_Checker_checkParts_9 (by decide) (fun hc => ?_) (fun hc => ?_)
  · have h := xp_t hc h
    exact wj_Checker_checkParts_46 htr C hne h hP hS (lv_sub hl [0] rfl)
  · have h := xp_f hc h
    refine lv_aload_n hx hb dd_Checker_checkParts_12 rfl (lv_at hl 0 rfl) ?_
    refine gf_h_Checker_55_module C hP dd_Checker_checkParts_13 ?_
    refine gf_h_Checker_4_functions C hP dd_Checker_checkParts_16 ?_
    refine gf_h_Checker_19_count C hP dd_Checker_checkParts_19 ?_
    refine lv_bipush (v := 64) hx hb dd_Checker_checkParts_22 (by decide) ?_
    refine lv_icmp_gt (tgt := 46) hx hb dd_Checker_checkParts_24 (by decide) (fun hc => ?_) (fun hc => ?_)
    · have h := xp_t hc h
      exact wj_Checker_checkParts_46 htr C hne h hP hS (lv_sub hl [0] rfl)
    · have h := xp_f hc h
      refine lv_aload_n hx hb dd_Checker_checkParts_27 rfl (lv_at hl 0 rfl) ?_
      refine gf_h_Checker_55_module C hP dd_Checker_checkParts_28 ?_
      refine gf_h_Checker_4_globals C hP dd_Checker_checkParts_31 ?_
      refine gf_h_Checker_34_count C hP dd_Checker_checkParts_34 ?_
      refine lv_bipush (v := 64) hx hb dd_Checker_checkParts_37 (by decide) ?_
      refine lv_icmp_gt (tgt := 46) hx hb dd_Checker_checkParts_39 (by decide) (fun hc => ?_) (fun hc => ?_)
      · have h := xp_t hc h
        exact wj_Checker_checkParts_46 htr C hne h hP hS (lv_sub hl [0] rfl)
      · have h := xp_f hc h
        refine lv_iconst (v := 1) hx hb dd_Checker_checkParts_42 (by decide) ?_
        refine lv_goto (tgt := 47) hx hb dd_Checker_checkParts_43 (by decide) ?_
        exact wj_Checker_checkParts_47 htr C hne h hP hS (lv_sub hl [0] rfl)
abbrev rm_Checker_resultCount : Room := { frames := 1, cells := 1, slots := 6, locals := 0 }
noncomputable def fm_Checker_resultCount (x0 : Int32) (u : xk_St) : Option (Int32 × xk_St) :=
  (if x0 < 0 ∨ 8192 ≤ x0.toNatClampNeg then none else xs_let (u.2.2.1 8 x0.toNatClampNeg) fun a1 => if (1024 : Int32) ≤ a1 then ((if (a1 - (1024 : Int32)) < 0 ∨ 65 ≤ (a1 - (1024 : Int32)).toNatClampNeg then none else some ((u.2.2.1 4 (a1 - (1024 : Int32)).toNatClampNeg), u))) else (if a1 = (0 : Int32) then (some ((0 : Int32), u)) else (some ((1 : Int32), u))))
set_option maxHeartbeats 4000000 in
set_option maxRecDepth 100000 in
theorem ct_Checker_resultCount {l : Launch} {D : va_G} {ad : Nat → Nat} {ca : Nat → ClassId} {ads : List Nat} (htr : l.stackTraces = false) (hok : xk_ok (kw_h ad ca) ads) {x0 : Int32} {u u' : xk_St} {r : Int32} (h : fm_Checker_resultCount x0 u = some (r, u')) :
    ∀ sz, xk_Met l ⟨"ModuleHouse$Checker", "resultCount", "(I)I"⟩ (Cond.code ⟨"ModuleHouse$Checker", "resultCount", "(I)I"⟩ prog_2_method_20_code 3 (some .int) :: xk_gd) rm_Checker_resultCount (xk_Pc D kx_cl (kx_ty ca) (kw_h ad ca) ads xk_F sz [.ref (ad 55), .int x0] u) (xk_Qc D kx_cl (kw_h ad ca) ads (xo_i (.inl r)) u') (xk_A ads sz) := by
  unfold fm_Checker_resultCount at h
  refine xk_con (by decide) htr hok (Nat.le_of_ble_eq_true rfl) (fun p e s m below meth c ls C hne hl hP => ?_)
  have hx := C.1.1
  have hb := C.1.2.1
  have hS : va_S (xk_A ads s.heap.size) s.heap s.heap [] := va_S.rf
  have hl : lv_has ls 3 [(0, .ref (ad 55)), (1, .int x0)] := hl
  refine lv_aload_n hx hb dd_Checker_resultCount_0 rfl (lv_at hl 0 rfl) ?_
  refine gf_h_Checker_55_code C hP dd_Checker_resultCount_1 ?_
  refine gf_h_Checker_12_first C hP dd_Checker_resultCount_4 ?_
  refine lv_iload_n hx hb dd_Checker_resultCount_7 rfl (lv_at hl 1 rfl) ?_
  obtain ⟨hi, h⟩ := xp_g h
  refine al_h_14 C hP hi dd_Checker_resultCount_8 ?_
  obtain ⟨a1, ea1, h⟩ := xp_let h
  refine xr_nami ea1 ?_
  refine lv_istore_n (lv' := [(2, .int a1), (0, .ref (ad 55)), (1, .int x0)]) hx hb dd_Checker_resultCount_9 rfl hl (by decide) rfl (fun ls hl => ?_)
  refine lv_iload_n hx hb dd_Checker_resultCount_10 rfl (lv_at hl 0 rfl) ?_
  refine lv_sipush (v := 1024) hx hb dd_Checker_resultCount_11 (by decide) ?_
  refine lv_icmp_ge (tgt := 27) hx hb dd_Checker_resultCount_14 (by decide) (fun hc => ?_) (fun hc => ?_)
  · have h := xp_t hc h
    refine lv_aload_n hx hb dd_Checker_resultCount_27 rfl (lv_at hl 1 rfl) ?_
    refine gf_h_Checker_55_types C hP dd_Checker_resultCount_28 ?_
    refine gf_h_Checker_6_results C hP dd_Checker_resultCount_31 ?_
    refine lv_iload_n hx hb dd_Checker_resultCount_34 rfl (lv_at hl 0 rfl) ?_
    refine lv_sipush (v := 1024) hx hb dd_Checker_resultCount_35 (by decide) ?_
    refine lv_isub hx hb dd_Checker_resultCount_38 ?_
    obtain ⟨hi, h⟩ := xp_g h
    refine al_h_9 C hP hi dd_Checker_resultCount_39 ?_
    obtain ⟨rfl, rfl⟩ := xp_r h
    exact xr_iret C hP hS dd_Checker_resultCount_40
  · have h := xp_f hc h
    refine lv_iload_n hx hb dd_Checker_resultCount_17 rfl (lv_at hl 0 rfl) ?_
    refine lv_if_ne (tgt := 25) hx hb dd_Checker_resultCount_18 (by decide) (fun hc => ?_) (fun hc => ?_)
    · have h := xp_f hc h
      refine lv_iconst (v := 1) hx hb dd_Checker_resultCount_25 (by decide) ?_
      obtain ⟨rfl, rfl⟩ := xp_r h
      exact xr_iret C hP hS dd_Checker_resultCount_26
    · have h := xp_t hc h
      refine lv_iconst (v := 0) hx hb dd_Checker_resultCount_21 (by decide) ?_
      refine lv_goto (tgt := 26) hx hb dd_Checker_resultCount_22 (by decide) ?_
      obtain ⟨rfl, rfl⟩ := xp_r h
      exact xr_iret C hP hS dd_Checker_resultCount_26
abbrev rm_Checker_parameterCount : Room := { frames := 1, cells := 1, slots := 6, locals := 0 }
noncomputable def fm_Checker_parameterCount (x0 : Int32) (u : xk_St) : Option (Int32 × xk_St) :=
  (if x0 < 0 ∨ 8192 ≤ x0.toNatClampNeg then none else xs_let (u.2.2.1 8 x0.toNatClampNeg) fun a1 => if (1024 : Int32) ≤ a1 then ((if (a1 - (1024 : Int32)) < 0 ∨ 65 ≤ (a1 - (1024 : Int32)).toNatClampNeg then none else some ((u.2.2.1 3 (a1 - (1024 : Int32)).toNatClampNeg), u))) else (some ((0 : Int32), u)))
set_option maxHeartbeats 4000000 in
set_option maxRecDepth 100000 in
theorem ct_Checker_parameterCount {l : Launch} {D : va_G} {ad : Nat → Nat} {ca : Nat → ClassId} {ads : List Nat} (htr : l.stackTraces = false) (hok : xk_ok (kw_h ad ca) ads) {x0 : Int32} {u u' : xk_St} {r : Int32} (h : fm_Checker_parameterCount x0 u = some (r, u')) :
    ∀ sz, xk_Met l ⟨"ModuleHouse$Checker", "parameterCount", "(I)I"⟩ (Cond.code ⟨"ModuleHouse$Checker", "parameterCount", "(I)I"⟩ prog_2_method_19_code 3 (some .int) :: xk_gd) rm_Checker_parameterCount (xk_Pc D kx_cl (kx_ty ca) (kw_h ad ca) ads xk_F sz [.ref (ad 55), .int x0] u) (xk_Qc D kx_cl (kw_h ad ca) ads (xo_i (.inl r)) u') (xk_A ads sz) := by
  unfold fm_Checker_parameterCount at h
  refine xk_con (by decide) htr hok (Nat.le_of_ble_eq_true rfl) (fun p e s m below meth c ls C hne hl hP => ?_)
  have hx := C.1.1
  have hb := C.1.2.1
  have hS : va_S (xk_A ads s.heap.size) s.heap s.heap [] := va_S.rf
  have hl : lv_has ls 3 [(0, .ref (ad 55)), (1, .int x0)] := hl
  refine lv_aload_n hx hb dd_Checker_parameterCount_0 rfl (lv_at hl 0 rfl) ?_
  refine gf_h_Checker_55_code C hP dd_Checker_parameterCount_1 ?_
  refine gf_h_Checker_12_first C hP dd_Checker_parameterCount_4 ?_
  refine lv_iload_n hx hb dd_Checker_parameterCount_7 rfl (lv_at hl 1 rfl) ?_
  obtain ⟨hi, h⟩ := xp_g h
  refine al_h_14 C hP hi dd_Checker_parameterCount_8 ?_
  obtain ⟨a1, ea1, h⟩ := xp_let h
  refine xr_nami ea1 ?_
  refine lv_istore_n (lv' := [(2, .int a1), (0, .ref (ad 55)), (1, .int x0)]) hx hb dd_Checker_parameterCount_9 rfl hl (by decide) rfl (fun ls hl => ?_)
  refine lv_iload_n hx hb dd_Checker_parameterCount_10 rfl (lv_at hl 0 rfl) ?_
  refine lv_sipush (v := 1024) hx hb dd_Checker_parameterCount_11 (by decide) ?_
  refine lv_icmp_ge (tgt := 21) hx hb dd_Checker_parameterCount_14 (by decide) (fun hc => ?_) (fun hc => ?_)
  · have h := xp_t hc h
    refine lv_aload_n hx hb dd_Checker_parameterCount_21 rfl (lv_at hl 1 rfl) ?_
    refine gf_h_Checker_55_types C hP dd_Checker_parameterCount_22 ?_
    refine gf_h_Checker_6_members C hP dd_Checker_parameterCount_25 ?_
    refine lv_iload_n hx hb dd_Checker_parameterCount_28 rfl (lv_at hl 0 rfl) ?_
    refine lv_sipush (v := 1024) hx hb dd_Checker_parameterCount_29 (by decide) ?_
    refine lv_isub hx hb dd_Checker_parameterCount_32 ?_
    obtain ⟨hi, h⟩ := xp_g h
    refine al_h_8 C hP hi dd_Checker_parameterCount_33 ?_
    obtain ⟨rfl, rfl⟩ := xp_r h
    exact xr_iret C hP hS dd_Checker_parameterCount_34
  · have h := xp_f hc h
    refine lv_iconst (v := 0) hx hb dd_Checker_parameterCount_17 (by decide) ?_
    refine lv_goto (tgt := 34) hx hb dd_Checker_parameterCount_18 (by decide) ?_
    obtain ⟨rfl, rfl⟩ := xp_r h
    exact xr_iret C hP hS dd_Checker_parameterCount_34
abbrev rm_Checker_openPart : Room := { frames := 7, cells := 1, slots := 6, locals := 120 }
noncomputable def jb_Checker_openPart_66 (b1 : Int32) (s0 : Int64) (s1 : Int32) (u : xk_St) : Option ((Unit ⊕ Nat) × xk_St) :=
  (if s1 < 0 ∨ 8192 ≤ s1.toNatClampNeg then none else xs_let (xs_B u 2 s1.toNatClampNeg s0) fun u5 => if (u5.1 21) < 0 ∨ 100 ≤ (u5.1 21).toNatClampNeg then none else xs_let (xs_A u5 34 (u5.1 21).toNatClampNeg b1) fun u6 => if (u6.1 21) < 0 ∨ 100 ≤ (u6.1 21).toNatClampNeg then none else xs_let (xs_A u6 35 (u6.1 21).toNatClampNeg (vp_nar .boolean (0 : Int32))) fun u7 => xs_let (xs_I u7 20 (u7.1 19)) fun u8 => xs_let (xs_I u8 21 ((u8.1 21) + (1 : Int32))) fun u9 => some (.inl (()), u9))
noncomputable def jb_Checker_openPart_14 (b1 : Int32) (s0 : Int32) (u : xk_St) : Option ((Unit ⊕ Nat) × xk_St) :=
  (xs_try (fm_Checker_need s0 u) fun _ u1 => if b1 < 0 ∨ 8192 ≤ b1.toNatClampNeg then none else xs_let (xs_A u1 10 b1.toNatClampNeg (u1.1 19)) fun u2 => if b1 < 0 ∨ 8192 ≤ b1.toNatClampNeg then none else if (u2.2.2.1 7 b1.toNatClampNeg) = (3 : Int32) then ((xs_seq (fm_Checker_parameterCount b1 u2) fun a10 u11 => jb_Checker_openPart_66 b1 (a10.toInt64) b1 u11)) else ((xs_seq (fm_Checker_resultCount b1 u2) fun a3 u4 => jb_Checker_openPart_66 b1 (a3.toInt64) b1 u4)))
noncomputable def fm_Checker_openPart (x0 : Int32) (u : xk_St) : Option ((Unit ⊕ Nat) × xk_St) :=
  if (100 : Int32) ≤ (u.1 21) then (jb_Checker_openPart_14 x0 (0 : Int32) u) else (jb_Checker_openPart_14 x0 (1 : Int32) u)
set_option maxHeartbeats 4000000 in
set_option maxRecDepth 100000 in
theorem wj_Checker_openPart_66 {p : Program} {l : Launch} {e : Env} {s : State} {m : MethodId} {args : Array Value} {below : List Frame} {meth : Method} {c : Code} {D : va_G} {ad : Nat → Nat} {ca : Nat → ClassId} {ads : List Nat} (htr : l.stackTraces = false) (C : xk_C D kx_cl (kx_ty ca) (kw_h ad ca) ads "ModuleHouse$Checker" prog_2_method_31_code 2 none p e s m args meth c) (hne : c.exceptionTable.isEmpty = true) {u' : xk_St} {r : (Unit ⊕ Nat)} {b1 : Int32} {s0 : Int64} {s1 : Int32} {u : xk_St} {H : Heap} {locs : List Loc} {ls : Array Slot} (h : jb_Checker_openPart_66  b1 s0 s1 u = some (r, u')) (hP : va_P D kx_cl (kw_h ad ca u) H) (hS : va_S (xk_A ads s.heap.size) s.heap H locs) (hl : lv_has ls 2 [(0, .ref (ad 55)), (1, .int b1)]) : W p l e rm_Checker_openPart s m args below meth c H locs 0 0 (xk_MQ below (xk_Qc D kx_cl (kw_h ad ca) ads (xo_v r) u') args s (xk_A ads s.heap.size)) (F0 m 66 ls [.long s0, .int s1, .ref (ad 15)]) := by
  have hx := C.1.1
  have hb := C.1.2.1
  have hok := C.2.2.1
  unfold jb_Checker_openPart_66 at h
  obtain ⟨hi, h⟩ := xp_g h
  refine as_h_15 C hP hS hi dd_Checker_openPart_66 (fun H locs hP hS => ?_)
  obtain ⟨u5, eu5, h⟩ := xp_let h
  rw [← eu5] at hP
  refine lv_aload_n hx hb dd_Checker_openPart_67 rfl (lv_at hl 0 rfl) ?_
  refine gf_h_Checker_55_opened C hP dd_Checker_openPart_68 ?_
  refine lv_aload_n hx hb dd_Checker_openPart_71 rfl (lv_at hl 0 rfl) ?_
  refine gf_h_Checker_55_depth C hP dd_Checker_openPart_72 ?_
  refine lv_iload_n hx hb dd_Checker_openPart_75 rfl (lv_at hl 1 rfl) ?_
  obtain ⟨hi, h⟩ := xp_g h
  refine as_h_57 C hP hS hi dd_Checker_openPart_76 (fun H locs hP hS => ?_)
  obtain ⟨u6, eu6, h⟩ := xp_let h
  rw [← eu6] at hP
  refine lv_aload_n hx hb dd_Checker_openPart_77 rfl (lv_at hl 0 rfl) ?_
  refine gf_h_Checker_55_lost C hP dd_Checker_openPart_78 ?_
  refine lv_aload_n hx hb dd_Checker_openPart_81 rfl (lv_at hl 0 rfl) ?_
  refine gf_h_Checker_55_depth C hP dd_Checker_openPart_82 ?_
  refine lv_iconst (v := 0) hx hb dd_Checker_openPart_85 (by decide) ?_
  obtain ⟨hi, h⟩ := xp_g h
  refine as_h_58 C hP hS hi dd_Checker_openPart_86 (fun H locs hP hS => ?_)
  obtain ⟨u7, eu7, h⟩ := xp_let h
  rw [← eu7] at hP
  refine lv_aload_n hx hb dd_Checker_openPart_87 rfl (lv_at hl 0 rfl) ?_
  refine lv_aload_n hx hb dd_Checker_openPart_88 rfl (lv_at hl 0 rfl) ?_
  refine gf_h_Checker_55_height C hP dd_Checker_openPart_89 ?_
  refine pf_h_Checker_55_floor C hP hS dd_Checker_openPart_92 (fun H locs hP hS => ?_)
  obtain ⟨u8, eu8, h⟩ := xp_let h
  rw [← eu8] at hP
  refine lv_aload_n hx hb dd_Checker_openPart_95 rfl (lv_at hl 0 rfl) ?_
  refine lv_dup hx hb dd_Checker_openPart_96 rfl ?_
  refine gf_h_Checker_55_depth C hP dd_Checker_openPart_97 ?_
  refine lv_iconst (v := 1) hx hb dd_Checker_openPart_100 (by decide) ?_
  refine lv_iadd hx hb dd_Checker_openPart_101 ?_
  refine pf_h_Checker_55_depth C hP hS dd_Checker_openPart_102 (fun H locs hP hS => ?_)
  obtain ⟨u9, eu9, h⟩ := xp_let h
  rw [← eu9] at hP
  obtain ⟨rfl, rfl⟩ := xp_r h
  exact xr_vret C hP hS dd_Checker_openPart_105
set_option maxHeartbeats 4000000 in
set_option maxRecDepth 100000 in
theorem wj_Checker_openPart_14 {p : Program} {l : Launch} {e : Env} {s : State} {m : MethodId} {args : Array Value} {below : List Frame} {meth : Method} {c : Code} {D : va_G} {ad : Nat → Nat} {ca : Nat → ClassId} {ads : List Nat} (htr : l.stackTraces = false) (C : xk_C D kx_cl (kx_ty ca) (kw_h ad ca) ads "ModuleHouse$Checker" prog_2_method_31_code 2 none p e s m args meth c) (hne : c.exceptionTable.isEmpty = true) {u' : xk_St} {r : (Unit ⊕ Nat)} {b1 : Int32} {s0 : Int32} {u : xk_St} {H : Heap} {locs : List Loc} {ls : Array Slot} (h : jb_Checker_openPart_14  b1 s0 u = some (r, u')) (hP : va_P D kx_cl (kw_h ad ca u) H) (hS : va_S (xk_A ads s.heap.size) s.heap H locs) (hl : lv_has ls 2 [(0, .ref (ad 55)), (1, .int b1)]) : W p l e rm_Checker_openPart s m args below meth c H locs 0 0 (xk_MQ below (xk_Qc D kx_cl (kw_h ad ca) ads (xo_v r) u') args s (xk_A ads s.heap.size)) (F0 m 14 ls [.int s0]) := by
  have hx := C.1.1
  have hb := C.1.2.1
  have hok := C.2.2.1
  unfold jb_Checker_openPart_14 at h
  rcases xp_try h with ⟨rx, u1, hq, h⟩ | ⟨kx, ux, hq, h⟩
  rotate_left
  · obtain ⟨rfl, rfl⟩ := xp_q h
    exact xk_up (xr_S (As := [.int s0]) (rest := []) C hP hS (ct_Checker_need htr hok hq) kq_Checker_60 ⟨rfl, rfl, Nat.le_of_ble_eq_true rfl, Nat.le_of_ble_eq_true rfl⟩ ⟨Nat.le_of_ble_eq_true rfl, Nat.le_of_ble_eq_true rfl⟩ hl.1 rfl rfl (Nat.le_of_ble_eq_true rfl) dd_Checker_openPart_14) hS hne C.2.2.2.2.2.2.1
  refine xk_goesV (xr_S (As := [.int s0]) (rest := []) C hP hS (ct_Checker_need htr hok hq) kq_Checker_60 ⟨rfl, rfl, Nat.le_of_ble_eq_true rfl, Nat.le_of_ble_eq_true rfl⟩ ⟨Nat.le_of_ble_eq_true rfl, Nat.le_of_ble_eq_true rfl⟩ hl.1 rfl rfl (Nat.le_of_ble_eq_true rfl) dd_Checker_openPart_14) hS (fun H locs hP hS => ?_)
  clear hq
  refine lv_aload_n hx hb dd_Checker_openPart_17 rfl (lv_at hl 0 rfl) ?_
  refine gf_h_Checker_55_code C hP dd_Checker_openPart_18 ?_
  refine gf_h_Checker_12_height C hP dd_Checker_openPart_21 ?_
  refine lv_iload_n hx hb dd_Checker_openPart_24 rfl (lv_at hl 1 rfl) ?_
  refine lv_aload_n hx hb dd_Checker_openPart_25 rfl (lv_at hl 0 rfl) ?_
  refine gf_h_Checker_55_height C hP dd_Checker_openPart_26 ?_
  obtain ⟨hi, h⟩ := xp_g h
  refine as_h_17 C hP hS hi dd_Checker_openPart_29 (fun H locs hP hS => ?_)
  obtain ⟨u2, eu2, h⟩ := xp_let h
  rw [← eu2] at hP
  refine lv_aload_n hx hb dd_Checker_openPart_30 rfl (lv_at hl 0 rfl) ?_
  refine gf_h_Checker_55_code C hP dd_Checker_openPart_31 ?_
  refine gf_h_Checker_12_second C hP dd_Checker_openPart_34 ?_
  refine lv_iload_n hx hb dd_Checker_openPart_37 rfl (lv_at hl 1 rfl) ?_
  refine lv_aload_n hx hb dd_Checker_openPart_38 rfl (lv_at hl 0 rfl) ?_
  refine gf_h_Checker_55_code C hP dd_Checker_openPart_39 ?_
  refine gf_h_Checker_12_op C hP dd_Checker_openPart_42 ?_
  refine lv_iload_n hx hb dd_Checker_openPart_45 rfl (lv_at hl 1 rfl) ?_
  obtain ⟨hi, h⟩ := xp_g h
  refine al_h_13 C hP hi dd_Checker_openPart_46 ?_
  refine lv_iconst (v := 3) hx hb dd_Checker_openPart_47 (by decide) ?_
  refine lv_icmp_ne (tgt := 60) hx hb dd_Checker_openPart_48 (by decide) (fun hc => ?_) (fun hc => ?_)
  · have h := xp_f hc h
    refine lv_aload_n hx hb dd_Checker_openPart_60 rfl (lv_at hl 0 rfl) ?_
    refine lv_iload_n hx hb dd_Checker_openPart_61 rfl (lv_at hl 1 rfl) ?_
    obtain ⟨a3, u4, hq, h⟩ := xp_seq h
    refine xk_goesI (xr_V (As := [.int b1]) (rest := [.int b1, .ref (ad 15)]) C hP hS (ct_Checker_resultCount htr hok hq) kq_Checker_290 55 1 rfl rfl ⟨rfl, rfl, Nat.le_of_ble_eq_true rfl, Nat.le_of_ble_eq_true rfl⟩ ⟨Nat.le_of_ble_eq_true rfl, Nat.le_of_ble_eq_true rfl⟩ hl.1 rfl rfl (Nat.le_of_ble_eq_true rfl) dd_Checker_openPart_62) hS (fun H locs hP hS => ?_)
    clear hq
    refine lv_i2l hx hb dd_Checker_openPart_65 rfl ?_
    exact wj_Checker_openPart_66 htr C hne h hP hS (lv_sub hl [0, 1] rfl)
  · have h := xp_t hc h
    refine lv_aload_n hx hb dd_Checker_openPart_51 rfl (lv_at hl 0 rfl) ?_
    refine lv_iload_n hx hb dd_Checker_openPart_52 rfl (lv_at hl 1 rfl) ?_
    obtain ⟨a10, u11, hq, h⟩ := xp_seq h
    refine xk_goesI (xr_V (As := [.int b1]) (rest := [.int b1, .ref (ad 15)]) C hP hS (ct_Checker_parameterCount htr hok hq) kq_Checker_287 55 1 rfl rfl ⟨rfl, rfl, Nat.le_of_ble_eq_true rfl, Nat.le_of_ble_eq_true rfl⟩ ⟨Nat.le_of_ble_eq_true rfl, Nat.le_of_ble_eq_true rfl⟩ hl.1 rfl rfl (Nat.le_of_ble_eq_true rfl) dd_Checker_openPart_53) hS (fun H locs hP hS => ?_)
    clear hq
    refine lv_i2l hx hb dd_Checker_openPart_56 rfl ?_
    refine lv_goto (tgt := 66) hx hb dd_Checker_openPart_57 (by decide) ?_
    exact wj_Checker_openPart_66 htr C hne h hP hS (lv_sub hl [0, 1] rfl)
set_option maxHeartbeats 4000000 in
set_option maxRecDepth 100000 in
theorem ct_Checker_openPart {l : Launch} {D : va_G} {ad : Nat → Nat} {ca : Nat → ClassId} {ads : List Nat} (htr : l.stackTraces = false) (hok : xk_ok (kw_h ad ca) ads) {x0 : Int32} {u u' : xk_St} {r : (Unit ⊕ Nat)} (h : fm_Checker_openPart x0 u = some (r, u')) :
    ∀ sz, xk_Met l ⟨"ModuleHouse$Checker", "openPart", "(I)V"⟩ (Cond.code ⟨"ModuleHouse$Checker", "openPart", "(I)V"⟩ prog_2_method_31_code 2 none :: xk_gd) rm_Checker_openPart (xk_Pc D kx_cl (kx_ty ca) (kw_h ad ca) ads xk_F sz [.ref (ad 55), .int x0] u) (xk_Qc D kx_cl (kw_h ad ca) ads (xo_v r) u') (xk_A ads sz) := by
  unfold fm_Checker_openPart at h
  refine xk_con (by decide) htr hok (Nat.le_of_ble_eq_true rfl) (fun p e s m below meth c ls C hne hl hP => ?_)
  have hx := C.1.1
  have hb := C.1.2.1
  have hS : va_S (xk_A ads s.heap.size) s.heap s.heap [] := va_S.rf
  have hl : lv_has ls 2 [(0, .ref (ad 55)), (1, .int x0)] := hl
  refine lv_aload_n hx hb dd_Checker_openPart_0 rfl (lv_at hl 0 rfl) ?_
  refine gf_h_Checker_55_depth C hP dd_Checker_openPart_1 ?_
  refine lv_bipush (v := 100) hx hb dd_Checker_openPart_4 (by decide) ?_
  refine lv_icmp_ge (tgt := 13) hx hb dd_Checker_openPart_6 (by decide) (fun hc => ?_) (fun hc => ?_)
  · have h := xp_t hc h
    refine lv_iconst (v := 0) hx hb dd_Checker_openPart_13 (by decide) ?_
    exact wj_Checker_openPart_14 htr C hne h hP hS (lv_sub hl [0, 1] rfl)
  · have h := xp_f hc h
    refine lv_iconst (v := 1) hx hb dd_Checker_openPart_9 (by decide) ?_
    refine lv_goto (tgt := 14) hx hb dd_Checker_openPart_10 (by decide) ?_
    exact wj_Checker_openPart_14 htr C hne h hP hS (lv_sub hl [0, 1] rfl)
abbrev rm_Checker_pop_ : Room := { frames := 6, cells := 1, slots := 6, locals := 100 }
noncomputable def fm_Checker_pop_ (u : xk_St) : Option ((Int32 ⊕ Nat) × xk_St) :=
  if (u.1 19) ≤ (u.1 20) then ((if ((u.1 21) - (1 : Int32)) < 0 ∨ 100 ≤ ((u.1 21) - (1 : Int32)).toNatClampNeg then none else if (u.2.2.1 35 ((u.1 21) - (1 : Int32)).toNatClampNeg) = (0 : Int32) then (some (.inr 0, u)) else (some (.inl (0 : Int32), u)))) else ((xs_let (xs_I u 19 ((u.1 19) - (1 : Int32))) fun u1 => if (u1.1 19) < 0 ∨ 100 ≤ (u1.1 19).toNatClampNeg then none else some (.inl (u1.2.2.1 33 (u1.1 19).toNatClampNeg), u1)))
set_option maxHeartbeats 4000000 in
set_option maxRecDepth 100000 in
theorem ct_Checker_pop_ {l : Launch} {D : va_G} {ad : Nat → Nat} {ca : Nat → ClassId} {ads : List Nat} (htr : l.stackTraces = false) (hok : xk_ok (kw_h ad ca) ads) {u u' : xk_St} {r : (Int32 ⊕ Nat)} (h : fm_Checker_pop_ u = some (r, u')) :
    ∀ sz, xk_Met l ⟨"ModuleHouse$Checker", "pop", "()I"⟩ (Cond.code ⟨"ModuleHouse$Checker", "pop", "()I"⟩ prog_2_method_15_code 1 (some .int) :: xk_gd) rm_Checker_pop_ (xk_Pc D kx_cl (kx_ty ca) (kw_h ad ca) ads xk_F sz [.ref (ad 55)] u) (xk_Qc D kx_cl (kw_h ad ca) ads (xo_i r) u') (xk_A ads sz) := by
  unfold fm_Checker_pop_ at h
  refine xk_con (by decide) htr hok (Nat.le_of_ble_eq_true rfl) (fun p e s m below meth c ls C hne hl hP => ?_)
  have hx := C.1.1
  have hb := C.1.2.1
  have hS : va_S (xk_A ads s.heap.size) s.heap s.heap [] := va_S.rf
  have hl : lv_has ls 1 [(0, .ref (ad 55))] := hl
  refine lv_aload_n hx hb dd_Checker_pop__0 rfl (lv_at hl 0 rfl) ?_
  refine gf_h_Checker_55_height C hP dd_Checker_pop__1 ?_
  refine lv_aload_n hx hb dd_Checker_pop__4 rfl (lv_at hl 0 rfl) ?_
  refine gf_h_Checker_55_floor C hP dd_Checker_pop__5 ?_
  refine lv_icmp_le (tgt := 31) hx hb dd_Checker_pop__8 (by decide) (fun hc => ?_) (fun hc => ?_)
  · have h := xp_t hc h
    refine lv_aload_n hx hb dd_Checker_pop__31 rfl (lv_at hl 0 rfl) ?_
    refine gf_h_Checker_55_lost C hP dd_Checker_pop__32 ?_
    refine lv_aload_n hx hb dd_Checker_pop__35 rfl (lv_at hl 0 rfl) ?_
    refine gf_h_Checker_55_depth C hP dd_Checker_pop__36 ?_
    refine lv_iconst (v := 1) hx hb dd_Checker_pop__39 (by decide) ?_
    refine lv_isub hx hb dd_Checker_pop__40 ?_
    obtain ⟨hi, h⟩ := xp_g h
    refine al_h_58 C hP hi dd_Checker_pop__41 ?_
    refine lv_if_ne (tgt := 53) hx hb dd_Checker_pop__42 (by decide) (fun hc => ?_) (fun hc => ?_)
    · have h := xp_f hc h
      refine lv_iconst (v := 0) hx hb dd_Checker_pop__53 (by decide) ?_
      obtain ⟨rfl, rfl⟩ := xp_r h
      exact xr_iret C hP hS dd_Checker_pop__54
    · have h := xp_t hc h
      obtain ⟨rfl, rfl⟩ := xp_r h
      exact xr_throw C hP hS hne kz_Checker_0 hl.1 ⟨Nat.le_of_ble_eq_true rfl, Nat.le_of_ble_eq_true rfl, Nat.le_of_ble_eq_true rfl, Nat.le_of_ble_eq_true rfl⟩ dd_Checker_pop__45 dd_Checker_pop__48 dd_Checker_pop__49 dd_Checker_pop__52
  · have h := xp_f hc h
    refine lv_aload_n hx hb dd_Checker_pop__11 rfl (lv_at hl 0 rfl) ?_
    refine lv_dup hx hb dd_Checker_pop__12 rfl ?_
    refine gf_h_Checker_55_height C hP dd_Checker_pop__13 ?_
    refine lv_iconst (v := 1) hx hb dd_Checker_pop__16 (by decide) ?_
    refine lv_isub hx hb dd_Checker_pop__17 ?_
    refine pf_h_Checker_55_height C hP hS dd_Checker_pop__18 (fun H locs hP hS => ?_)
    obtain ⟨u1, eu1, h⟩ := xp_let h
    rw [← eu1] at hP
    refine lv_aload_n hx hb dd_Checker_pop__21 rfl (lv_at hl 0 rfl) ?_
    refine gf_h_Checker_55_stack C hP dd_Checker_pop__22 ?_
    refine lv_aload_n hx hb dd_Checker_pop__25 rfl (lv_at hl 0 rfl) ?_
    refine gf_h_Checker_55_height C hP dd_Checker_pop__26 ?_
    obtain ⟨hi, h⟩ := xp_g h
    refine al_h_56 C hP hi dd_Checker_pop__29 ?_
    obtain ⟨rfl, rfl⟩ := xp_r h
    exact xr_iret C hP hS dd_Checker_pop__30
