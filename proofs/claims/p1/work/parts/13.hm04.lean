abbrev rm_Numbers_trapOf : Room := { frames := 1, cells := 1, slots := 6, locals := 0 }
noncomputable def fm_Numbers_trapOf (x0 : Int32) (x1 : Int64) (x2 : Int64) (x3 : Int64) (u : xk_St) : Option (Int32 × xk_St) :=
  if x0 < (3 : Int32) then (some ((0 : Int32), u)) else (if x0 ≤ (6 : Int32) then (if x2 = (0 : Int64) then (some ((3 : Int32), u)) else (if x0 = (3 : Int32) then (if x1 = x3 then (if x2 = (-1 : Int64) then (some ((4 : Int32), u)) else (some ((0 : Int32), u))) else (some ((0 : Int32), u))) else (some ((0 : Int32), u)))) else (some ((0 : Int32), u)))
set_option maxHeartbeats 4000000 in
set_option maxRecDepth 100000 in
theorem ct_Numbers_trapOf {l : Launch} {D : va_G} {ad : Nat → Nat} {ca : Nat → ClassId} {ads : List Nat} (htr : l.stackTraces = false) (hok : xk_ok (kw_h ad ca) ads) {x0 : Int32} {x1 : Int64} {x2 : Int64} {x3 : Int64} {u u' : xk_St} {r : Int32} (h : fm_Numbers_trapOf x0 x1 x2 x3 u = some (r, u')) :
    ∀ sz, xk_Met l ⟨"ModuleHouse$Numbers", "trapOf", "(IJJJ)I"⟩ (Cond.code ⟨"ModuleHouse$Numbers", "trapOf", "(IJJJ)I"⟩ prog_7_method_4_code 7 (some .int) :: xk_gd) rm_Numbers_trapOf (xk_Pc D kx_cl (kx_ty ca) (kw_h ad ca) ads xk_F sz [.int x0, .long x1, .long x2, .long x3] u) (xk_Qc D kx_cl (kw_h ad ca) ads (xo_i (.inl r)) u') (xk_A ads sz) := by
  unfold fm_Numbers_trapOf at h
  refine xk_con (by decide) htr hok (Nat.le_of_ble_eq_true rfl) (fun p e s m below meth c ls C hne hl hP => ?_)
  have hx := C.1.1
  have hb := C.1.2.1
  have hS : va_S (xk_A ads s.heap.size) s.heap s.heap [] := va_S.rf
  have hl : lv_has ls 7 [(0, .int x0), (1, .long x1), (3, .long x2), (5, .long x3)] := hl
  refine lv_iload_n hx hb dd_Numbers_trapOf_0 rfl (lv_at hl 0 rfl) ?_
  refine lv_iconst (v := 3) hx hb dd_Numbers_trapOf_1 (by decide) ?_
  refine lv_icmp_lt (tgt := 11) hx hb dd_Numbers_trapOf_2 (by decide) (fun hc => ?_) (fun hc => ?_)
  · have h := xp_t hc h
    refine lv_iconst (v := 0) hx hb dd_Numbers_trapOf_11 (by decide) ?_
    obtain ⟨rfl, rfl⟩ := xp_r h
    exact xr_iret C hP hS dd_Numbers_trapOf_12
  · have h := xp_f hc h
    refine lv_iload_n hx hb dd_Numbers_trapOf_5 rfl (lv_at hl 0 rfl) ?_
    refine lv_bipush (v := 6) hx hb dd_Numbers_trapOf_6 (by decide) ?_
    refine lv_icmp_le (tgt := 13) hx hb dd_Numbers_trapOf_8 (by decide) (fun hc => ?_) (fun hc => ?_)
    · have h := xp_t hc h
      refine lv_lload_n hx hb dd_Numbers_trapOf_13 rfl (lv_at hl 2 rfl) ?_
      refine lv_lconst (v := 0) hx hb dd_Numbers_trapOf_14 (by decide) ?_
      refine xr_lc_ne (tgt := 21) hx hb dd_Numbers_trapOf_15 dd_Numbers_trapOf_16 (by decide) (fun hc => ?_) (fun hc => ?_)
      · have h := xp_f hc h
        refine lv_iload_n hx hb dd_Numbers_trapOf_21 rfl (lv_at hl 0 rfl) ?_
        refine lv_iconst (v := 3) hx hb dd_Numbers_trapOf_22 (by decide) ?_
        refine lv_icmp_ne (tgt := 45) hx hb dd_Numbers_trapOf_23 (by decide) (fun hc => ?_) (fun hc => ?_)
        · have h := xp_f hc h
          refine lv_iconst (v := 0) hx hb dd_Numbers_trapOf_45 (by decide) ?_
          obtain ⟨rfl, rfl⟩ := xp_r h
          exact xr_iret C hP hS dd_Numbers_trapOf_46
        · have h := xp_t hc h
          refine lv_lload_n hx hb dd_Numbers_trapOf_26 rfl (lv_at hl 1 rfl) ?_
          refine lv_lload hx hb dd_Numbers_trapOf_27 (lv_at hl 3 rfl) ?_
          refine xr_lc_ne (tgt := 45) hx hb dd_Numbers_trapOf_29 dd_Numbers_trapOf_30 (by decide) (fun hc => ?_) (fun hc => ?_)
          · have h := xp_f hc h
            refine lv_iconst (v := 0) hx hb dd_Numbers_trapOf_45 (by decide) ?_
            obtain ⟨rfl, rfl⟩ := xp_r h
            exact xr_iret C hP hS dd_Numbers_trapOf_46
          · have h := xp_t hc h
            refine lv_lload_n hx hb dd_Numbers_trapOf_33 rfl (lv_at hl 2 rfl) ?_
            refine lv_ldc2 (v := (-1)) hx hb C.1.2.2.2.1 (C.1.2.2.2.2 _ (xk_c7 (w := Jvm.Cond.constantLong "ModuleHouse$Numbers" 17 (-1)) 34 rfl rfl)) dd_Numbers_trapOf_34 ?_
            refine xr_lc_ne (tgt := 45) hx hb dd_Numbers_trapOf_37 dd_Numbers_trapOf_38 (by decide) (fun hc => ?_) (fun hc => ?_)
            · have h := xp_f hc h
              refine lv_iconst (v := 0) hx hb dd_Numbers_trapOf_45 (by decide) ?_
              obtain ⟨rfl, rfl⟩ := xp_r h
              exact xr_iret C hP hS dd_Numbers_trapOf_46
            · have h := xp_t hc h
              refine lv_iconst (v := 4) hx hb dd_Numbers_trapOf_41 (by decide) ?_
              refine lv_goto (tgt := 46) hx hb dd_Numbers_trapOf_42 (by decide) ?_
              obtain ⟨rfl, rfl⟩ := xp_r h
              exact xr_iret C hP hS dd_Numbers_trapOf_46
      · have h := xp_t hc h
        refine lv_iconst (v := 3) hx hb dd_Numbers_trapOf_19 (by decide) ?_
        obtain ⟨rfl, rfl⟩ := xp_r h
        exact xr_iret C hP hS dd_Numbers_trapOf_20
    · have h := xp_f hc h
      refine lv_iconst (v := 0) hx hb dd_Numbers_trapOf_11 (by decide) ?_
      obtain ⟨rfl, rfl⟩ := xp_r h
      exact xr_iret C hP hS dd_Numbers_trapOf_12
abbrev rm_Numbers_isBelow : Room := { frames := 1, cells := 1, slots := 6, locals := 0 }
noncomputable def fm_Numbers_isBelow (x0 : Int64) (x1 : Int64) (u : xk_St) : Option (Int32 × xk_St) :=
  if (x1 + (-9223372036854775808 : Int64)) ≤ (x0 + (-9223372036854775808 : Int64)) then (some ((0 : Int32), u)) else (some ((1 : Int32), u))
set_option maxHeartbeats 4000000 in
set_option maxRecDepth 100000 in
theorem ct_Numbers_isBelow {l : Launch} {D : va_G} {ad : Nat → Nat} {ca : Nat → ClassId} {ads : List Nat} (htr : l.stackTraces = false) (hok : xk_ok (kw_h ad ca) ads) {x0 : Int64} {x1 : Int64} {u u' : xk_St} {r : Int32} (h : fm_Numbers_isBelow x0 x1 u = some (r, u')) :
    ∀ sz, xk_Met l ⟨"ModuleHouse$Numbers", "isBelow", "(JJ)Z"⟩ (Cond.code ⟨"ModuleHouse$Numbers", "isBelow", "(JJ)Z"⟩ prog_7_method_3_code 4 (some .boolean) :: xk_gd) rm_Numbers_isBelow (xk_Pc D kx_cl (kx_ty ca) (kw_h ad ca) ads xk_F sz [.long x0, .long x1] u) (xk_Qc D kx_cl (kw_h ad ca) ads (xo_i (.inl r)) u') (xk_A ads sz) := by
  unfold fm_Numbers_isBelow at h
  refine xk_con (by decide) htr hok (Nat.le_of_ble_eq_true rfl) (fun p e s m below meth c ls C hne hl hP => ?_)
  have hx := C.1.1
  have hb := C.1.2.1
  have hS : va_S (xk_A ads s.heap.size) s.heap s.heap [] := va_S.rf
  have hl : lv_has ls 4 [(0, .long x0), (2, .long x1)] := hl
  refine lv_lload_n hx hb dd_Numbers_isBelow_0 rfl (lv_at hl 0 rfl) ?_
  refine lv_ldc2 (v := (-9223372036854775808)) hx hb C.1.2.2.2.1 (C.1.2.2.2.2 _ (xk_c7 (w := Jvm.Cond.constantLong "ModuleHouse$Numbers" 15 (-9223372036854775808)) 26 rfl rfl)) dd_Numbers_isBelow_1 ?_
  refine lv_ladd hx hb dd_Numbers_isBelow_4 ?_
  refine lv_lload_n hx hb dd_Numbers_isBelow_5 rfl (lv_at hl 1 rfl) ?_
  refine lv_ldc2 (v := (-9223372036854775808)) hx hb C.1.2.2.2.1 (C.1.2.2.2.2 _ (xk_c7 (w := Jvm.Cond.constantLong "ModuleHouse$Numbers" 15 (-9223372036854775808)) 26 rfl rfl)) dd_Numbers_isBelow_6 ?_
  refine lv_ladd hx hb dd_Numbers_isBelow_9 ?_
  refine xr_lc_ge (tgt := 18) hx hb dd_Numbers_isBelow_10 dd_Numbers_isBelow_11 (by decide) (fun hc => ?_) (fun hc => ?_)
  · have h := xp_t hc h
    refine lv_iconst (v := 0) hx hb dd_Numbers_isBelow_18 (by decide) ?_
    obtain ⟨rfl, rfl⟩ := xp_r h
    exact xr_zret C hP hS (by decide) dd_Numbers_isBelow_19
  · have h := xp_f hc h
    refine lv_iconst (v := 1) hx hb dd_Numbers_isBelow_14 (by decide) ?_
    refine lv_goto (tgt := 19) hx hb dd_Numbers_isBelow_15 (by decide) ?_
    obtain ⟨rfl, rfl⟩ := xp_r h
    exact xr_zret C hP hS (by decide) dd_Numbers_isBelow_19
abbrev rm_Numbers_quotient : Room := { frames := 2, cells := 1, slots := 6, locals := 23 }
noncomputable def fm_Numbers_quotient (x0 : Int64) (x1 : Int64) (u : xk_St) : Option (Int64 × xk_St) :=
  if (0 : Int64) ≤ x1 then ((if x1 = (0 : Int64) then none else xs_let ((((x0.toUInt64 >>> ((1 : Int32).toInt64.toUInt64 &&& Int64.toUInt64 63)).toInt64) / x1) <<< ((1 : Int32).toInt64 &&& 63)) fun a1 => xs_seq (fm_Numbers_isBelow (x0 - (a1 * x1)) x1 u) fun a2 u3 => if a2 = (0 : Int32) then (some ((a1 + (1 : Int64)), u3)) else (some (a1, u3)))) else ((xs_seq (fm_Numbers_isBelow x0 x1 u) fun a4 u5 => if a4 = (0 : Int32) then (some ((1 : Int64), u5)) else (some ((0 : Int64), u5))))
set_option maxHeartbeats 4000000 in
set_option maxRecDepth 100000 in
theorem ct_Numbers_quotient {l : Launch} {D : va_G} {ad : Nat → Nat} {ca : Nat → ClassId} {ads : List Nat} (htr : l.stackTraces = false) (hok : xk_ok (kw_h ad ca) ads) {x0 : Int64} {x1 : Int64} {u u' : xk_St} {r : Int64} (h : fm_Numbers_quotient x0 x1 u = some (r, u')) :
    ∀ sz, xk_Met l ⟨"ModuleHouse$Numbers", "quotient", "(JJ)J"⟩ (Cond.code ⟨"ModuleHouse$Numbers", "quotient", "(JJ)J"⟩ prog_7_method_10_code 6 (some .long) :: xk_gd) rm_Numbers_quotient (xk_Pc D kx_cl (kx_ty ca) (kw_h ad ca) ads xk_F sz [.long x0, .long x1] u) (xk_Qc D kx_cl (kw_h ad ca) ads (xo_l (.inl r)) u') (xk_A ads sz) := by
  unfold fm_Numbers_quotient at h
  refine xk_con (by decide) htr hok (Nat.le_of_ble_eq_true rfl) (fun p e s m below meth c ls C hne hl hP => ?_)
  have hx := C.1.1
  have hb := C.1.2.1
  have hS : va_S (xk_A ads s.heap.size) s.heap s.heap [] := va_S.rf
  have hl : lv_has ls 6 [(0, .long x0), (2, .long x1)] := hl
  refine lv_lload_n hx hb dd_Numbers_quotient_0 rfl (lv_at hl 1 rfl) ?_
  refine lv_lconst (v := 0) hx hb dd_Numbers_quotient_1 (by decide) ?_
  refine xr_lc_ge (tgt := 20) hx hb dd_Numbers_quotient_2 dd_Numbers_quotient_3 (by decide) (fun hc => ?_) (fun hc => ?_)
  · have h := xp_t hc h
    refine lv_lload_n hx hb dd_Numbers_quotient_20 rfl (lv_at hl 0 rfl) ?_
    refine lv_iconst (v := 1) hx hb dd_Numbers_quotient_21 (by decide) ?_
    refine lv_lushr hx hb dd_Numbers_quotient_22 rfl ?_
    refine lv_lload_n hx hb dd_Numbers_quotient_23 rfl (lv_at hl 1 rfl) ?_
    obtain ⟨hz, h⟩ := xp_g h
    refine lv_ldiv hx hb dd_Numbers_quotient_24 hz ?_
    refine lv_iconst (v := 1) hx hb dd_Numbers_quotient_25 (by decide) ?_
    refine lv_lshl hx hb dd_Numbers_quotient_26 rfl ?_
    obtain ⟨a1, ea1, h⟩ := xp_let h
    refine xr_naml ea1 ?_
    refine lv_lstore (lv' := [(4, .long a1), (0, .long x0), (2, .long x1)]) hx hb dd_Numbers_quotient_27 hl (by decide) rfl (fun ls hl => ?_)
    refine lv_lload_n hx hb dd_Numbers_quotient_29 rfl (lv_at hl 1 rfl) ?_
    refine lv_lload hx hb dd_Numbers_quotient_30 (lv_at hl 0 rfl) ?_
    refine lv_lload_n hx hb dd_Numbers_quotient_32 rfl (lv_at hl 2 rfl) ?_
    refine lv_lmul hx hb dd_Numbers_quotient_33 ?_
    refine lv_lsub hx hb dd_Numbers_quotient_34 ?_
    refine lv_lload_n hx hb dd_Numbers_quotient_35 rfl (lv_at hl 2 rfl) ?_
    obtain ⟨a2, u3, hq, h⟩ := xp_seq h
    refine xk_goesI (xr_S (As := [.long (x0 - (a1 * x1)), .long x1]) (rest := []) C hP hS (ct_Numbers_isBelow htr hok hq) kq_Numbers_9 ⟨rfl, rfl, Nat.le_of_ble_eq_true rfl, Nat.le_of_ble_eq_true rfl⟩ ⟨Nat.le_of_ble_eq_true rfl, Nat.le_of_ble_eq_true rfl⟩ hl.1 rfl rfl (Nat.le_of_ble_eq_true rfl) dd_Numbers_quotient_36) hS (fun H locs hP hS => ?_)
    clear hq
    refine lv_if_eq (tgt := 47) hx hb dd_Numbers_quotient_39 (by decide) (fun hc => ?_) (fun hc => ?_)
    · have h := xp_t hc h
      refine lv_lload hx hb dd_Numbers_quotient_47 (lv_at hl 0 rfl) ?_
      refine lv_lconst (v := 1) hx hb dd_Numbers_quotient_49 (by decide) ?_
      refine lv_ladd hx hb dd_Numbers_quotient_50 ?_
      obtain ⟨rfl, rfl⟩ := xp_r h
      exact xr_lret C hP hS dd_Numbers_quotient_51
    · have h := xp_f hc h
      refine lv_lload hx hb dd_Numbers_quotient_42 (lv_at hl 0 rfl) ?_
      refine lv_goto (tgt := 51) hx hb dd_Numbers_quotient_44 (by decide) ?_
      obtain ⟨rfl, rfl⟩ := xp_r h
      exact xr_lret C hP hS dd_Numbers_quotient_51
  · have h := xp_f hc h
    refine lv_lload_n hx hb dd_Numbers_quotient_6 rfl (lv_at hl 0 rfl) ?_
    refine lv_lload_n hx hb dd_Numbers_quotient_7 rfl (lv_at hl 1 rfl) ?_
    obtain ⟨a4, u5, hq, h⟩ := xp_seq h
    refine xk_goesI (xr_S (As := [.long x0, .long x1]) (rest := []) C hP hS (ct_Numbers_isBelow htr hok hq) kq_Numbers_9 ⟨rfl, rfl, Nat.le_of_ble_eq_true rfl, Nat.le_of_ble_eq_true rfl⟩ ⟨Nat.le_of_ble_eq_true rfl, Nat.le_of_ble_eq_true rfl⟩ hl.1 rfl rfl (Nat.le_of_ble_eq_true rfl) dd_Numbers_quotient_8) hS (fun H locs hP hS => ?_)
    clear hq
    refine lv_if_eq (tgt := 18) hx hb dd_Numbers_quotient_11 (by decide) (fun hc => ?_) (fun hc => ?_)
    · have h := xp_t hc h
      refine lv_lconst (v := 1) hx hb dd_Numbers_quotient_18 (by decide) ?_
      obtain ⟨rfl, rfl⟩ := xp_r h
      exact xr_lret C hP hS dd_Numbers_quotient_19
    · have h := xp_f hc h
      refine lv_lconst (v := 0) hx hb dd_Numbers_quotient_14 (by decide) ?_
      refine lv_goto (tgt := 19) hx hb dd_Numbers_quotient_15 (by decide) ?_
      obtain ⟨rfl, rfl⟩ := xp_r h
      exact xr_lret C hP hS dd_Numbers_quotient_19
abbrev rm_Numbers_answer64 : Room := { frames := 3, cells := 1, slots := 6, locals := 48 }
noncomputable def fm_Numbers_answer64 (x0 : Int32) (x1 : Int64) (x2 : Int64) (u : xk_St) : Option (Int64 × xk_St) :=
  if x0 = (0 : Int32) then (some ((x1 + x2), u)) else if x0 = (1 : Int32) then (some ((x1 - x2), u)) else if x0 = (2 : Int32) then (some ((x1 * x2), u)) else if x0 = (3 : Int32) then ((if x2 = (0 : Int64) then none else some ((x1 / x2), u))) else if x0 = (4 : Int32) then ((xs_seq (fm_Numbers_quotient x1 x2 u) fun a1 u2 => some (a1, u2))) else if x0 = (5 : Int32) then ((if x2 = (0 : Int64) then none else some ((x1 - x1 / x2 * x2), u))) else if x0 = (6 : Int32) then ((xs_seq (fm_Numbers_quotient x1 x2 u) fun a3 u4 => some ((x1 - (a3 * x2)), u4))) else if x0 = (7 : Int32) then (some ((x1 &&& x2), u)) else if x0 = (8 : Int32) then (some ((x1 ||| x2), u)) else if x0 = (9 : Int32) then (some ((x1 ^^^ x2), u)) else if x0 = (10 : Int32) then (some ((x1 <<< ((x2.toInt32).toInt64 &&& 63)), u)) else if x0 = (11 : Int32) then (some ((x1 >>> ((x2.toInt32).toInt64 &&& 63)), u)) else if x0 = (12 : Int32) then (some (((x1.toUInt64 >>> ((x2.toInt32).toInt64.toUInt64 &&& Int64.toUInt64 63)).toInt64), u)) else if x0 = (13 : Int32) then (some (((x1 <<< ((x2.toInt32).toInt64 &&& 63)) ||| ((x1.toUInt64 >>> (((-x2).toInt32).toInt64.toUInt64 &&& Int64.toUInt64 63)).toInt64)), u)) else (some ((((x1.toUInt64 >>> ((x2.toInt32).toInt64.toUInt64 &&& Int64.toUInt64 63)).toInt64) ||| (x1 <<< (((-x2).toInt32).toInt64 &&& 63))), u))
set_option maxHeartbeats 4000000 in
set_option maxRecDepth 100000 in
theorem ct_Numbers_answer64 {l : Launch} {D : va_G} {ad : Nat → Nat} {ca : Nat → ClassId} {ads : List Nat} (htr : l.stackTraces = false) (hok : xk_ok (kw_h ad ca) ads) {x0 : Int32} {x1 : Int64} {x2 : Int64} {u u' : xk_St} {r : Int64} (h : fm_Numbers_answer64 x0 x1 x2 u = some (r, u')) :
    ∀ sz, xk_Met l ⟨"ModuleHouse$Numbers", "answer64", "(IJJ)J"⟩ (Cond.code ⟨"ModuleHouse$Numbers", "answer64", "(IJJ)J"⟩ prog_7_method_9_code 5 (some .long) :: xk_gd) rm_Numbers_answer64 (xk_Pc D kx_cl (kx_ty ca) (kw_h ad ca) ads xk_F sz [.int x0, .long x1, .long x2] u) (xk_Qc D kx_cl (kw_h ad ca) ads (xo_l (.inl r)) u') (xk_A ads sz) := by
  unfold fm_Numbers_answer64 at h
  refine xk_con (by decide) htr hok (Nat.le_of_ble_eq_true rfl) (fun p e s m below meth c ls C hne hl hP => ?_)
  have hx := C.1.1
  have hb := C.1.2.1
  have hS : va_S (xk_A ads s.heap.size) s.heap s.heap [] := va_S.rf
  have hl : lv_has ls 5 [(0, .int x0), (1, .long x1), (3, .long x2)] := hl
  refine lv_iload_n hx hb dd_Numbers_answer64_0 rfl (lv_at hl 0 rfl) ?_
  by_cases hc0 : x0 = (0 : Int32)
  · have h := xp_t hc0 h
    refine lv_tableIn (off := 71) (tgt := 72) hx hb dd_Numbers_answer64_1 (by rw [hc0]; decide) (by rw [hc0]; decide) (by rw [hc0]; rfl) (by decide) ?_
    refine lv_lload_n hx hb dd_Numbers_answer64_72 rfl (lv_at hl 1 rfl) ?_
    refine lv_lload_n hx hb dd_Numbers_answer64_73 rfl (lv_at hl 2 rfl) ?_
    refine lv_ladd hx hb dd_Numbers_answer64_74 ?_
    refine lv_goto (tgt := 184) hx hb dd_Numbers_answer64_75 (by decide) ?_
    obtain ⟨rfl, rfl⟩ := xp_r h
    exact xr_lret C hP hS dd_Numbers_answer64_184
  have h := xp_f hc0 h
  by_cases hc1 : x0 = (1 : Int32)
  · have h := xp_t hc1 h
    refine lv_tableIn (off := 77) (tgt := 78) hx hb dd_Numbers_answer64_1 (by rw [hc1]; decide) (by rw [hc1]; decide) (by rw [hc1]; rfl) (by decide) ?_
    refine lv_lload_n hx hb dd_Numbers_answer64_78 rfl (lv_at hl 1 rfl) ?_
    refine lv_lload_n hx hb dd_Numbers_answer64_79 rfl (lv_at hl 2 rfl) ?_
    refine lv_lsub hx hb dd_Numbers_answer64_80 ?_
    refine lv_goto (tgt := 184) hx hb dd_Numbers_answer64_81 (by decide) ?_
    obtain ⟨rfl, rfl⟩ := xp_r h
    exact xr_lret C hP hS dd_Numbers_answer64_184
  have h := xp_f hc1 h
  by_cases hc2 : x0 = (2 : Int32)
  · have h := xp_t hc2 h
    refine lv_tableIn (off := 83) (tgt := 84) hx hb dd_Numbers_answer64_1 (by rw [hc2]; decide) (by rw [hc2]; decide) (by rw [hc2]; rfl) (by decide) ?_
    refine lv_lload_n hx hb dd_Numbers_answer64_84 rfl (lv_at hl 1 rfl) ?_
    refine lv_lload_n hx hb dd_Numbers_answer64_85 rfl (lv_at hl 2 rfl) ?_
    refine lv_lmul hx hb dd_Numbers_answer64_86 ?_
    refine lv_goto (tgt := 184) hx hb dd_Numbers_answer64_87 (by decide) ?_
    obtain ⟨rfl, rfl⟩ := xp_r h
    exact xr_lret C hP hS dd_Numbers_answer64_184
  have h := xp_f hc2 h
  by_cases hc3 : x0 = (3 : Int32)
  · have h := xp_t hc3 h
    refine lv_tableIn (off := 89) (tgt := 90) hx hb dd_Numbers_answer64_1 (by rw [hc3]; decide) (by rw [hc3]; decide) (by rw [hc3]; rfl) (by decide) ?_
    refine lv_lload_n hx hb dd_Numbers_answer64_90 rfl (lv_at hl 1 rfl) ?_
    refine lv_lload_n hx hb dd_Numbers_answer64_91 rfl (lv_at hl 2 rfl) ?_
    obtain ⟨hz, h⟩ := xp_g h
    refine lv_ldiv hx hb dd_Numbers_answer64_92 hz ?_
    refine lv_goto (tgt := 184) hx hb dd_Numbers_answer64_93 (by decide) ?_
    obtain ⟨rfl, rfl⟩ := xp_r h
    exact xr_lret C hP hS dd_Numbers_answer64_184
  have h := xp_f hc3 h
  by_cases hc4 : x0 = (4 : Int32)
  · have h := xp_t hc4 h
    refine lv_tableIn (off := 95) (tgt := 96) hx hb dd_Numbers_answer64_1 (by rw [hc4]; decide) (by rw [hc4]; decide) (by rw [hc4]; rfl) (by decide) ?_
    refine lv_lload_n hx hb dd_Numbers_answer64_96 rfl (lv_at hl 1 rfl) ?_
    refine lv_lload_n hx hb dd_Numbers_answer64_97 rfl (lv_at hl 2 rfl) ?_
    obtain ⟨a1, u2, hq, h⟩ := xp_seq h
    refine xk_goesL (xr_S (As := [.long x1, .long x2]) (rest := []) C hP hS (ct_Numbers_quotient htr hok hq) kq_Numbers_35 ⟨rfl, rfl, Nat.le_of_ble_eq_true rfl, Nat.le_of_ble_eq_true rfl⟩ ⟨Nat.le_of_ble_eq_true rfl, Nat.le_of_ble_eq_true rfl⟩ hl.1 rfl rfl (Nat.le_of_ble_eq_true rfl) dd_Numbers_answer64_98) hS (fun H locs hP hS => ?_)
    clear hq
    refine lv_goto (tgt := 184) hx hb dd_Numbers_answer64_101 (by decide) ?_
    obtain ⟨rfl, rfl⟩ := xp_r h
    exact xr_lret C hP hS dd_Numbers_answer64_184
  have h := xp_f hc4 h
  by_cases hc5 : x0 = (5 : Int32)
  · have h := xp_t hc5 h
    refine lv_tableIn (off := 103) (tgt := 104) hx hb dd_Numbers_answer64_1 (by rw [hc5]; decide) (by rw [hc5]; decide) (by rw [hc5]; rfl) (by decide) ?_
    refine lv_lload_n hx hb dd_Numbers_answer64_104 rfl (lv_at hl 1 rfl) ?_
    refine lv_lload_n hx hb dd_Numbers_answer64_105 rfl (lv_at hl 2 rfl) ?_
    obtain ⟨hz, h⟩ := xp_g h
    refine lv_lrem hx hb dd_Numbers_answer64_106 hz ?_
    refine lv_goto (tgt := 184) hx hb dd_Numbers_answer64_107 (by decide) ?_
    obtain ⟨rfl, rfl⟩ := xp_r h
    exact xr_lret C hP hS dd_Numbers_answer64_184
  have h := xp_f hc5 h
  by_cases hc6 : x0 = (6 : Int32)
  · have h := xp_t hc6 h
    refine lv_tableIn (off := 109) (tgt := 110) hx hb dd_Numbers_answer64_1 (by rw [hc6]; decide) (by rw [hc6]; decide) (by rw [hc6]; rfl) (by decide) ?_
    refine lv_lload_n hx hb dd_Numbers_answer64_110 rfl (lv_at hl 1 rfl) ?_
    refine lv_lload_n hx hb dd_Numbers_answer64_111 rfl (lv_at hl 1 rfl) ?_
    refine lv_lload_n hx hb dd_Numbers_answer64_112 rfl (lv_at hl 2 rfl) ?_
    obtain ⟨a3, u4, hq, h⟩ := xp_seq h
    refine xk_goesL (xr_S (As := [.long x1, .long x2]) (rest := [.long x1]) C hP hS (ct_Numbers_quotient htr hok hq) kq_Numbers_35 ⟨rfl, rfl, Nat.le_of_ble_eq_true rfl, Nat.le_of_ble_eq_true rfl⟩ ⟨Nat.le_of_ble_eq_true rfl, Nat.le_of_ble_eq_true rfl⟩ hl.1 rfl rfl (Nat.le_of_ble_eq_true rfl) dd_Numbers_answer64_113) hS (fun H locs hP hS => ?_)
    clear hq
    refine lv_lload_n hx hb dd_Numbers_answer64_116 rfl (lv_at hl 2 rfl) ?_
    refine lv_lmul hx hb dd_Numbers_answer64_117 ?_
    refine lv_lsub hx hb dd_Numbers_answer64_118 ?_
    refine lv_goto (tgt := 184) hx hb dd_Numbers_answer64_119 (by decide) ?_
    obtain ⟨rfl, rfl⟩ := xp_r h
    exact xr_lret C hP hS dd_Numbers_answer64_184
  have h := xp_f hc6 h
  by_cases hc7 : x0 = (7 : Int32)
  · have h := xp_t hc7 h
    refine lv_tableIn (off := 121) (tgt := 122) hx hb dd_Numbers_answer64_1 (by rw [hc7]; decide) (by rw [hc7]; decide) (by rw [hc7]; rfl) (by decide) ?_
    refine lv_lload_n hx hb dd_Numbers_answer64_122 rfl (lv_at hl 1 rfl) ?_
    refine lv_lload_n hx hb dd_Numbers_answer64_123 rfl (lv_at hl 2 rfl) ?_
    refine lv_land hx hb dd_Numbers_answer64_124 ?_
    refine lv_goto (tgt := 184) hx hb dd_Numbers_answer64_125 (by decide) ?_
    obtain ⟨rfl, rfl⟩ := xp_r h
    exact xr_lret C hP hS dd_Numbers_answer64_184
  have h := xp_f hc7 h
  by_cases hc8 : x0 = (8 : Int32)
  · have h := xp_t hc8 h
    refine lv_tableIn (off := 127) (tgt := 128) hx hb dd_Numbers_answer64_1 (by rw [hc8]; decide) (by rw [hc8]; decide) (by rw [hc8]; rfl) (by decide) ?_
    refine lv_lload_n hx hb dd_Numbers_answer64_128 rfl (lv_at hl 1 rfl) ?_
    refine lv_lload_n hx hb dd_Numbers_answer64_129 rfl (lv_at hl 2 rfl) ?_
    refine lv_lor hx hb dd_Numbers_answer64_130 ?_
    refine lv_goto (tgt := 184) hx hb dd_Numbers_answer64_131 (by decide) ?_
    obtain ⟨rfl, rfl⟩ := xp_r h
    exact xr_lret C hP hS dd_Numbers_answer64_184
  have h := xp_f hc8 h
  by_cases hc9 : x0 = (9 : Int32)
  · have h := xp_t hc9 h
    refine lv_tableIn (off := 133) (tgt := 134) hx hb dd_Numbers_answer64_1 (by rw [hc9]; decide) (by rw [hc9]; decide) (by rw [hc9]; rfl) (by decide) ?_
    refine lv_lload_n hx hb dd_Numbers_answer64_134 rfl (lv_at hl 1 rfl) ?_
    refine lv_lload_n hx hb dd_Numbers_answer64_135 rfl (lv_at hl 2 rfl) ?_
    refine lv_lxor hx hb dd_Numbers_answer64_136 ?_
    refine lv_goto (tgt := 184) hx hb dd_Numbers_answer64_137 (by decide) ?_
    obtain ⟨rfl, rfl⟩ := xp_r h
    exact xr_lret C hP hS dd_Numbers_answer64_184
  have h := xp_f hc9 h
  by_cases hc10 : x0 = (10 : Int32)
  · have h := xp_t hc10 h
    refine lv_tableIn (off := 139) (tgt := 140) hx hb dd_Numbers_answer64_1 (by rw [hc10]; decide) (by rw [hc10]; decide) (by rw [hc10]; rfl) (by decide) ?_
    refine lv_lload_n hx hb dd_Numbers_answer64_140 rfl (lv_at hl 1 rfl) ?_
    refine lv_lload_n hx hb dd_Numbers_answer64_141 rfl (lv_at hl 2 rfl) ?_
    refine lv_l2i hx hb dd_Numbers_answer64_142 rfl ?_
    refine lv_lshl hx hb dd_Numbers_answer64_143 rfl ?_
    refine lv_goto (tgt := 184) hx hb dd_Numbers_answer64_144 (by decide) ?_
    obtain ⟨rfl, rfl⟩ := xp_r h
    exact xr_lret C hP hS dd_Numbers_answer64_184
  have h := xp_f hc10 h
  by_cases hc11 : x0 = (11 : Int32)
  · have h := xp_t hc11 h
    refine lv_tableIn (off := 146) (tgt := 147) hx hb dd_Numbers_answer64_1 (by rw [hc11]; decide) (by rw [hc11]; decide) (by rw [hc11]; rfl) (by decide) ?_
    refine lv_lload_n hx hb dd_Numbers_answer64_147 rfl (lv_at hl 1 rfl) ?_
    refine lv_lload_n hx hb dd_Numbers_answer64_148 rfl (lv_at hl 2 rfl) ?_
    refine lv_l2i hx hb dd_Numbers_answer64_149 rfl ?_
    refine lv_lshr hx hb dd_Numbers_answer64_150 rfl ?_
    refine lv_goto (tgt := 184) hx hb dd_Numbers_answer64_151 (by decide) ?_
    obtain ⟨rfl, rfl⟩ := xp_r h
    exact xr_lret C hP hS dd_Numbers_answer64_184
  have h := xp_f hc11 h
  by_cases hc12 : x0 = (12 : Int32)
  · have h := xp_t hc12 h
    refine lv_tableIn (off := 153) (tgt := 154) hx hb dd_Numbers_answer64_1 (by rw [hc12]; decide) (by rw [hc12]; decide) (by rw [hc12]; rfl) (by decide) ?_
    refine lv_lload_n hx hb dd_Numbers_answer64_154 rfl (lv_at hl 1 rfl) ?_
    refine lv_lload_n hx hb dd_Numbers_answer64_155 rfl (lv_at hl 2 rfl) ?_
    refine lv_l2i hx hb dd_Numbers_answer64_156 rfl ?_
    refine lv_lushr hx hb dd_Numbers_answer64_157 rfl ?_
    refine lv_goto (tgt := 184) hx hb dd_Numbers_answer64_158 (by decide) ?_
    obtain ⟨rfl, rfl⟩ := xp_r h
    exact xr_lret C hP hS dd_Numbers_answer64_184
  have h := xp_f hc12 h
  by_cases hc13 : x0 = (13 : Int32)
  · have h := xp_t hc13 h
    refine lv_tableIn (off := 160) (tgt := 161) hx hb dd_Numbers_answer64_1 (by rw [hc13]; decide) (by rw [hc13]; decide) (by rw [hc13]; rfl) (by decide) ?_
    refine lv_lload_n hx hb dd_Numbers_answer64_161 rfl (lv_at hl 1 rfl) ?_
    refine lv_lload_n hx hb dd_Numbers_answer64_162 rfl (lv_at hl 2 rfl) ?_
    refine lv_l2i hx hb dd_Numbers_answer64_163 rfl ?_
    refine lv_lshl hx hb dd_Numbers_answer64_164 rfl ?_
    refine lv_lload_n hx hb dd_Numbers_answer64_165 rfl (lv_at hl 1 rfl) ?_
    refine lv_lload_n hx hb dd_Numbers_answer64_166 rfl (lv_at hl 2 rfl) ?_
    refine lv_lneg hx hb dd_Numbers_answer64_167 ?_
    refine lv_l2i hx hb dd_Numbers_answer64_168 rfl ?_
    refine lv_lushr hx hb dd_Numbers_answer64_169 rfl ?_
    refine lv_lor hx hb dd_Numbers_answer64_170 ?_
    refine lv_goto (tgt := 184) hx hb dd_Numbers_answer64_171 (by decide) ?_
    obtain ⟨rfl, rfl⟩ := xp_r h
    exact xr_lret C hP hS dd_Numbers_answer64_184
  have h := xp_f hc13 h
  have hd0 := lv_neT hc0 (a := 0) (by decide)
  have hd1 := lv_neT hc1 (a := 1) (by decide)
  have hd2 := lv_neT hc2 (a := 2) (by decide)
  have hd3 := lv_neT hc3 (a := 3) (by decide)
  have hd4 := lv_neT hc4 (a := 4) (by decide)
  have hd5 := lv_neT hc5 (a := 5) (by decide)
  have hd6 := lv_neT hc6 (a := 6) (by decide)
  have hd7 := lv_neT hc7 (a := 7) (by decide)
  have hd8 := lv_neT hc8 (a := 8) (by decide)
  have hd9 := lv_neT hc9 (a := 9) (by decide)
  have hd10 := lv_neT hc10 (a := 10) (by decide)
  have hd11 := lv_neT hc11 (a := 11) (by decide)
  have hd12 := lv_neT hc12 (a := 12) (by decide)
  have hd13 := lv_neT hc13 (a := 13) (by decide)
  refine lv_tableOut (tgt := 174) hx hb dd_Numbers_answer64_1 (by omega) (by decide) ?_
  refine lv_lload_n hx hb dd_Numbers_answer64_174 rfl (lv_at hl 1 rfl) ?_
  refine lv_lload_n hx hb dd_Numbers_answer64_175 rfl (lv_at hl 2 rfl) ?_
  refine lv_l2i hx hb dd_Numbers_answer64_176 rfl ?_
  refine lv_lushr hx hb dd_Numbers_answer64_177 rfl ?_
  refine lv_lload_n hx hb dd_Numbers_answer64_178 rfl (lv_at hl 1 rfl) ?_
  refine lv_lload_n hx hb dd_Numbers_answer64_179 rfl (lv_at hl 2 rfl) ?_
  refine lv_lneg hx hb dd_Numbers_answer64_180 ?_
  refine lv_l2i hx hb dd_Numbers_answer64_181 rfl ?_
  refine lv_lshl hx hb dd_Numbers_answer64_182 rfl ?_
  refine lv_lor hx hb dd_Numbers_answer64_183 ?_
  obtain ⟨rfl, rfl⟩ := xp_r h
  exact xr_lret C hP hS dd_Numbers_answer64_184
abbrev rm_Machine_compute64 : Room := { frames := 4, cells := 1, slots := 6, locals := 72 }
noncomputable def fm_Machine_compute64 (x0 : Int32) (u : xk_St) : Option (Unit × xk_St) :=
  (xs_seq (fm_Values_pop__h61 u) fun a1 u2 => xs_seq (fm_Values_pop__h61 u2) fun a3 u4 => xs_seq (fm_Numbers_trapOf x0 a3 a1 (-9223372036854775808 : Int64) u4) fun a5 u6 => xs_let (xs_I u6 27 a5) fun u7 => if (u7.1 27) = (0 : Int32) then ((xs_seq (fm_Numbers_answer64 x0 a3 a1 u7) fun a8 u9 => xs_seq (fm_Values_push__h61 a8 u9) fun _ u10 => some ((()), u10))) else (some ((()), u7)))
set_option maxHeartbeats 4000000 in
set_option maxRecDepth 100000 in
theorem ct_Machine_compute64 {l : Launch} {D : va_G} {ad : Nat → Nat} {ca : Nat → ClassId} {ads : List Nat} (htr : l.stackTraces = false) (hok : xk_ok (kw_h ad ca) ads) {x0 : Int32} {u u' : xk_St} {r : Unit} (h : fm_Machine_compute64 x0 u = some (r, u')) :
    ∀ sz, xk_Met l ⟨"ModuleHouse$Machine", "compute64", "(I)V"⟩ (Cond.code ⟨"ModuleHouse$Machine", "compute64", "(I)V"⟩ prog_5_method_18_code 6 none :: xk_gd) rm_Machine_compute64 (xk_Pc D kx_cl (kx_ty ca) (kw_h ad ca) ads xk_F sz [.ref (ad 60), .int x0] u) (xk_Qc D kx_cl (kw_h ad ca) ads (xo_v (.inl r)) u') (xk_A ads sz) := by
  unfold fm_Machine_compute64 at h
  refine xk_con (by decide) htr hok (Nat.le_of_ble_eq_true rfl) (fun p e s m below meth c ls C hne hl hP => ?_)
  have hx := C.1.1
  have hb := C.1.2.1
  have hS : va_S (xk_A ads s.heap.size) s.heap s.heap [] := va_S.rf
  have hl : lv_has ls 6 [(0, .ref (ad 60)), (1, .int x0)] := hl
  refine lv_aload_n hx hb dd_Machine_compute64_0 rfl (lv_at hl 0 rfl) ?_
  refine gf_h_Machine_60_values C hP dd_Machine_compute64_1 ?_
  obtain ⟨a1, u2, hq, h⟩ := xp_seq h
  refine xk_goesL (xr_V (As := []) (rest := []) C hP hS (ct_Values_pop__h61 htr hok hq) kq_Machine_245 61 10 rfl rfl ⟨rfl, rfl, Nat.le_of_ble_eq_true rfl, Nat.le_of_ble_eq_true rfl⟩ ⟨Nat.le_of_ble_eq_true rfl, Nat.le_of_ble_eq_true rfl⟩ hl.1 rfl rfl (Nat.le_of_ble_eq_true rfl) dd_Machine_compute64_4) hS (fun H locs hP hS => ?_)
  clear hq
  refine lv_lstore_n (lv' := [(2, .long a1), (0, .ref (ad 60)), (1, .int x0)]) hx hb dd_Machine_compute64_7 rfl hl (by decide) rfl (fun ls hl => ?_)
  refine lv_aload_n hx hb dd_Machine_compute64_8 rfl (lv_at hl 1 rfl) ?_
  refine gf_h_Machine_60_values C hP dd_Machine_compute64_9 ?_
  obtain ⟨a3, u4, hq, h⟩ := xp_seq h
  refine xk_goesL (xr_V (As := []) (rest := []) C hP hS (ct_Values_pop__h61 htr hok hq) kq_Machine_245 61 10 rfl rfl ⟨rfl, rfl, Nat.le_of_ble_eq_true rfl, Nat.le_of_ble_eq_true rfl⟩ ⟨Nat.le_of_ble_eq_true rfl, Nat.le_of_ble_eq_true rfl⟩ hl.1 rfl rfl (Nat.le_of_ble_eq_true rfl) dd_Machine_compute64_12) hS (fun H locs hP hS => ?_)
  clear hq
  refine lv_lstore (lv' := [(4, .long a3), (2, .long a1), (0, .ref (ad 60)), (1, .int x0)]) hx hb dd_Machine_compute64_15 hl (by decide) rfl (fun ls hl => ?_)
  refine lv_aload_n hx hb dd_Machine_compute64_17 rfl (lv_at hl 2 rfl) ?_
  refine lv_iload_n hx hb dd_Machine_compute64_18 rfl (lv_at hl 3 rfl) ?_
  refine lv_lload hx hb dd_Machine_compute64_19 (lv_at hl 0 rfl) ?_
  refine lv_lload_n hx hb dd_Machine_compute64_21 rfl (lv_at hl 1 rfl) ?_
  refine lv_ldc2 (v := (-9223372036854775808)) hx hb C.1.2.2.2.1 (C.1.2.2.2.2 _ (xk_c7 (w := Jvm.Cond.constantLong "ModuleHouse$Machine" 335 (-9223372036854775808)) 65 rfl rfl)) dd_Machine_compute64_22 ?_
  obtain ⟨a5, u6, hq, h⟩ := xp_seq h
  refine xk_goesI (xr_S (As := [.int x0, .long a3, .long a1, .long (-9223372036854775808 : Int64)]) (rest := [.ref (ad 60)]) C hP hS (ct_Numbers_trapOf htr hok hq) kq_Machine_327 ⟨rfl, rfl, Nat.le_of_ble_eq_true rfl, Nat.le_of_ble_eq_true rfl⟩ ⟨Nat.le_of_ble_eq_true rfl, Nat.le_of_ble_eq_true rfl⟩ hl.1 rfl rfl (Nat.le_of_ble_eq_true rfl) dd_Machine_compute64_25) hS (fun H locs hP hS => ?_)
  clear hq
  refine pf_h_Machine_60_trap C hP hS dd_Machine_compute64_28 (fun H locs hP hS => ?_)
  obtain ⟨u7, eu7, h⟩ := xp_let h
  rw [← eu7] at hP
  refine lv_aload_n hx hb dd_Machine_compute64_31 rfl (lv_at hl 2 rfl) ?_
  refine gf_h_Machine_60_trap C hP dd_Machine_compute64_32 ?_
  refine lv_if_ne (tgt := 52) hx hb dd_Machine_compute64_35 (by decide) (fun hc => ?_) (fun hc => ?_)
  · have h := xp_f hc h
    obtain ⟨rfl, rfl⟩ := xp_r h
    exact xr_vret C hP hS dd_Machine_compute64_52
  · have h := xp_t hc h
    refine lv_aload_n hx hb dd_Machine_compute64_38 rfl (lv_at hl 2 rfl) ?_
    refine gf_h_Machine_60_values C hP dd_Machine_compute64_39 ?_
    refine lv_iload_n hx hb dd_Machine_compute64_42 rfl (lv_at hl 3 rfl) ?_
    refine lv_lload hx hb dd_Machine_compute64_43 (lv_at hl 0 rfl) ?_
    refine lv_lload_n hx hb dd_Machine_compute64_45 rfl (lv_at hl 1 rfl) ?_
    obtain ⟨a8, u9, hq, h⟩ := xp_seq h
    refine xk_goesL (xr_S (As := [.int x0, .long a3, .long a1]) (rest := [.ref (ad 61)]) C hP hS (ct_Numbers_answer64 htr hok hq) kq_Machine_337 ⟨rfl, rfl, Nat.le_of_ble_eq_true rfl, Nat.le_of_ble_eq_true rfl⟩ ⟨Nat.le_of_ble_eq_true rfl, Nat.le_of_ble_eq_true rfl⟩ hl.1 rfl rfl (Nat.le_of_ble_eq_true rfl) dd_Machine_compute64_46) hS (fun H locs hP hS => ?_)
    clear hq
    obtain ⟨rx, u10, hq, h⟩ := xp_seq h
    refine xk_goesV (xr_V (As := [.long a8]) (rest := []) C hP hS (ct_Values_push__h61 htr hok hq) kq_Machine_99 61 10 rfl rfl ⟨rfl, rfl, Nat.le_of_ble_eq_true rfl, Nat.le_of_ble_eq_true rfl⟩ ⟨Nat.le_of_ble_eq_true rfl, Nat.le_of_ble_eq_true rfl⟩ hl.1 rfl rfl (Nat.le_of_ble_eq_true rfl) dd_Machine_compute64_49) hS (fun H locs hP hS => ?_)
    clear hq
    obtain ⟨rfl, rfl⟩ := xp_r h
    exact xr_vret C hP hS dd_Machine_compute64_52
abbrev rm_Long_bitCount__h : Room := { frames := 1, cells := 1, slots := 6, locals := 0 }
noncomputable def fm_Long_bitCount__h (x0 : Int64) (u : xk_St) : Option (Int32 × xk_St) :=
  (xs_let (x0 - (((x0.toUInt64 >>> ((1 : Int32).toInt64.toUInt64 &&& Int64.toUInt64 63)).toInt64) &&& (6148914691236517205 : Int64))) fun a1 => xs_let ((a1 &&& (3689348814741910323 : Int64)) + (((a1.toUInt64 >>> ((2 : Int32).toInt64.toUInt64 &&& Int64.toUInt64 63)).toInt64) &&& (3689348814741910323 : Int64))) fun a2 => xs_let ((a2 + ((a2.toUInt64 >>> ((4 : Int32).toInt64.toUInt64 &&& Int64.toUInt64 63)).toInt64)) &&& (1085102592571150095 : Int64)) fun a3 => xs_let (a3 + ((a3.toUInt64 >>> ((8 : Int32).toInt64.toUInt64 &&& Int64.toUInt64 63)).toInt64)) fun a4 => xs_let (a4 + ((a4.toUInt64 >>> ((16 : Int32).toInt64.toUInt64 &&& Int64.toUInt64 63)).toInt64)) fun a5 => xs_let (a5 + ((a5.toUInt64 >>> ((32 : Int32).toInt64.toUInt64 &&& Int64.toUInt64 63)).toInt64)) fun a6 => some (((a6.toInt32) &&& (127 : Int32)), u))
set_option maxHeartbeats 4000000 in
set_option maxRecDepth 100000 in
theorem ct_Long_bitCount__h {l : Launch} {D : va_G} {ad : Nat → Nat} {ca : Nat → ClassId} {ads : List Nat} (htr : l.stackTraces = false) (hok : xk_ok (kw_h ad ca) ads) {x0 : Int64} {u u' : xk_St} {r : Int32} (h : fm_Long_bitCount__h x0 u = some (r, u')) :
    ∀ sz, xk_Met l ⟨"java/lang/Long", "bitCount", "(J)I"⟩ (Cond.code ⟨"java/lang/Long", "bitCount", "(J)I"⟩ prog_21_method_50_code 2 (some .int) :: xk_gd) rm_Long_bitCount__h (xk_Pc D kx_cl (kx_ty ca) (kw_h ad ca) ads xk_F sz [.long x0] u) (xk_Qc D kx_cl (kw_h ad ca) ads (xo_i (.inl r)) u') (xk_A ads sz) := by
  unfold fm_Long_bitCount__h at h
  refine xk_con (by decide) htr hok (Nat.le_of_ble_eq_true rfl) (fun p e s m below meth c ls C hne hl hP => ?_)
  have hx := C.1.1
  have hb := C.1.2.1
  have hS : va_S (xk_A ads s.heap.size) s.heap s.heap [] := va_S.rf
  have hl : lv_has ls 2 [(0, .long x0)] := hl
  refine lv_lload_n hx hb dd_Long_bitCount_0 rfl (lv_at hl 0 rfl) ?_
  refine lv_lload_n hx hb dd_Long_bitCount_1 rfl (lv_at hl 0 rfl) ?_
  refine lv_iconst (v := 1) hx hb dd_Long_bitCount_2 (by decide) ?_
  refine lv_lushr hx hb dd_Long_bitCount_3 rfl ?_
  refine lv_ldc2 (v := 6148914691236517205) hx hb C.1.2.2.2.1 (C.1.2.2.2.2 _ (xk_c7 (w := Jvm.Cond.constantLong "java/lang/Long" 314 6148914691236517205) 38 rfl rfl)) dd_Long_bitCount_4 ?_
  refine lv_land hx hb dd_Long_bitCount_7 ?_
  refine lv_lsub hx hb dd_Long_bitCount_8 ?_
  obtain ⟨a1, ea1, h⟩ := xp_let h
  refine xr_naml ea1 ?_
  refine lv_lstore_n (lv' := [(0, .long a1)]) hx hb dd_Long_bitCount_9 rfl hl (by decide) rfl (fun ls hl => ?_)
  refine lv_lload_n hx hb dd_Long_bitCount_10 rfl (lv_at hl 0 rfl) ?_
  refine lv_ldc2 (v := 3689348814741910323) hx hb C.1.2.2.2.1 (C.1.2.2.2.2 _ (xk_c7 (w := Jvm.Cond.constantLong "java/lang/Long" 316 3689348814741910323) 39 rfl rfl)) dd_Long_bitCount_11 ?_
  refine lv_land hx hb dd_Long_bitCount_14 ?_
  refine lv_lload_n hx hb dd_Long_bitCount_15 rfl (lv_at hl 0 rfl) ?_
  refine lv_iconst (v := 2) hx hb dd_Long_bitCount_16 (by decide) ?_
  refine lv_lushr hx hb dd_Long_bitCount_17 rfl ?_
  refine lv_ldc2 (v := 3689348814741910323) hx hb C.1.2.2.2.1 (C.1.2.2.2.2 _ (xk_c7 (w := Jvm.Cond.constantLong "java/lang/Long" 316 3689348814741910323) 39 rfl rfl)) dd_Long_bitCount_18 ?_
  refine lv_land hx hb dd_Long_bitCount_21 ?_
  refine lv_ladd hx hb dd_Long_bitCount_22 ?_
  obtain ⟨a2, ea2, h⟩ := xp_let h
  refine xr_naml ea2 ?_
  refine lv_lstore_n (lv' := [(0, .long a2)]) hx hb dd_Long_bitCount_23 rfl hl (by decide) rfl (fun ls hl => ?_)
  refine lv_lload_n hx hb dd_Long_bitCount_24 rfl (lv_at hl 0 rfl) ?_
  refine lv_lload_n hx hb dd_Long_bitCount_25 rfl (lv_at hl 0 rfl) ?_
  refine lv_iconst (v := 4) hx hb dd_Long_bitCount_26 (by decide) ?_
  refine lv_lushr hx hb dd_Long_bitCount_27 rfl ?_
  refine lv_ladd hx hb dd_Long_bitCount_28 ?_
  refine lv_ldc2 (v := 1085102592571150095) hx hb C.1.2.2.2.1 (C.1.2.2.2.2 _ (xk_c7 (w := Jvm.Cond.constantLong "java/lang/Long" 318 1085102592571150095) 40 rfl rfl)) dd_Long_bitCount_29 ?_
  refine lv_land hx hb dd_Long_bitCount_32 ?_
  obtain ⟨a3, ea3, h⟩ := xp_let h
  refine xr_naml ea3 ?_
  refine lv_lstore_n (lv' := [(0, .long a3)]) hx hb dd_Long_bitCount_33 rfl hl (by decide) rfl (fun ls hl => ?_)
  refine lv_lload_n hx hb dd_Long_bitCount_34 rfl (lv_at hl 0 rfl) ?_
  refine lv_lload_n hx hb dd_Long_bitCount_35 rfl (lv_at hl 0 rfl) ?_
  refine lv_bipush (v := 8) hx hb dd_Long_bitCount_36 (by decide) ?_
  refine lv_lushr hx hb dd_Long_bitCount_38 rfl ?_
  refine lv_ladd hx hb dd_Long_bitCount_39 ?_
  obtain ⟨a4, ea4, h⟩ := xp_let h
  refine xr_naml ea4 ?_
  refine lv_lstore_n (lv' := [(0, .long a4)]) hx hb dd_Long_bitCount_40 rfl hl (by decide) rfl (fun ls hl => ?_)
  refine lv_lload_n hx hb dd_Long_bitCount_41 rfl (lv_at hl 0 rfl) ?_
  refine lv_lload_n hx hb dd_Long_bitCount_42 rfl (lv_at hl 0 rfl) ?_
  refine lv_bipush (v := 16) hx hb dd_Long_bitCount_43 (by decide) ?_
  refine lv_lushr hx hb dd_Long_bitCount_45 rfl ?_
  refine lv_ladd hx hb dd_Long_bitCount_46 ?_
  obtain ⟨a5, ea5, h⟩ := xp_let h
  refine xr_naml ea5 ?_
  refine lv_lstore_n (lv' := [(0, .long a5)]) hx hb dd_Long_bitCount_47 rfl hl (by decide) rfl (fun ls hl => ?_)
  refine lv_lload_n hx hb dd_Long_bitCount_48 rfl (lv_at hl 0 rfl) ?_
  refine lv_lload_n hx hb dd_Long_bitCount_49 rfl (lv_at hl 0 rfl) ?_
  refine lv_bipush (v := 32) hx hb dd_Long_bitCount_50 (by decide) ?_
  refine lv_lushr hx hb dd_Long_bitCount_52 rfl ?_
  refine lv_ladd hx hb dd_Long_bitCount_53 ?_
  obtain ⟨a6, ea6, h⟩ := xp_let h
  refine xr_naml ea6 ?_
  refine lv_lstore_n (lv' := [(0, .long a6)]) hx hb dd_Long_bitCount_54 rfl hl (by decide) rfl (fun ls hl => ?_)
  refine lv_lload_n hx hb dd_Long_bitCount_55 rfl (lv_at hl 0 rfl) ?_
  refine lv_l2i hx hb dd_Long_bitCount_56 rfl ?_
  refine lv_bipush (v := 127) hx hb dd_Long_bitCount_57 (by decide) ?_
  refine lv_iand hx hb dd_Long_bitCount_59 ?_
  obtain ⟨rfl, rfl⟩ := xp_r h
  exact xr_iret C hP hS dd_Long_bitCount_60
abbrev rm_Numbers_leading : Room := { frames := 2, cells := 1, slots := 6, locals := 21 }
noncomputable def jb_Numbers_leading_5 (fu : Nat) : Nat → Int64 → Int32 → xk_St → Option (Int32 × xk_St)
  | 0 => fun _ _ _ => none
  | n + 1 => fun b2 b4 u =>
    xs_let (jb_Numbers_leading_5 fu  n) fun k5 =>
    if (32 : Int32) < b4 then ((xs_seq (fm_Long_bitCount__h (b2 ^^^ (-1 : Int64)) u) fun a1 u2 => some (a1, u2))) else ((xs_let (b2 ||| ((b2.toUInt64 >>> (b4.toInt64.toUInt64 &&& Int64.toUInt64 63)).toInt64)) fun a3 => xs_let (b4 * (2 : Int32)) fun a4 => k5 a3 a4 u))
noncomputable def fm_Numbers_leading (fu : Nat) (x0 : Int64) (u : xk_St) : Option (Int32 × xk_St) :=
  jb_Numbers_leading_5 fu fu x0 (1 : Int32) u
set_option maxHeartbeats 4000000 in
set_option maxRecDepth 100000 in
theorem wj_Numbers_leading_5 {p : Program} {l : Launch} {e : Env} {s : State} {m : MethodId} {args : Array Value} {below : List Frame} {meth : Method} {c : Code} {D : va_G} {ad : Nat → Nat} {ca : Nat → ClassId} {ads : List Nat} {fu : Nat} (htr : l.stackTraces = false) (C : xk_C D kx_cl (kx_ty ca) (kw_h ad ca) ads "ModuleHouse$Numbers" prog_7_method_7_code 5 (some .int) p e s m args meth c) (hne : c.exceptionTable.isEmpty = true) {u' : xk_St} {r : Int32} : ∀ {n : Nat} {b2 : Int64} {b4 : Int32} {u : xk_St} {H : Heap} {locs : List Loc} {ls : Array Slot} (h : jb_Numbers_leading_5 fu  n b2 b4 u = some (r, u')) (hP : va_P D kx_cl (kw_h ad ca u) H) (hS : va_S (xk_A ads s.heap.size) s.heap H locs) (hl : lv_has ls 5 [(2, .long b2), (4, .int b4)]), W p l e rm_Numbers_leading s m args below meth c H locs 0 0 (xk_MQ below (xk_Qc D kx_cl (kw_h ad ca) ads (xo_i (.inl r)) u') args s (xk_A ads s.heap.size)) (F0 m 5 ls []) := by
  intro n
  have hx := C.1.1
  have hb := C.1.2.1
  have hok := C.2.2.1
  induction n with
  | zero =>
    intro _ _ u H locs ls h
    have h : none = some (r, u') := h
    cases h
  | succ n ih =>
    intro b2 b4 u H locs ls h hP hS hl
    unfold jb_Numbers_leading_5 at h
    obtain ⟨k5, ek5, h⟩ := xp_let h
    have hk5 : ∀ (c0 : Int64) (c1 : Int32) (u : xk_St) (H : Heap) (locs : List Loc) (ls : Array Slot), k5 c0 c1 u = some (r, u') → va_P D kx_cl (kw_h ad ca u) H → va_S (xk_A ads s.heap.size) s.heap H locs → lv_has ls 5 [(2, .long c0), (4, .int c1)] → W p l e rm_Numbers_leading s m args below meth c H locs 0 0 (xk_MQ below (xk_Qc D kx_cl (kw_h ad ca) ads (xo_i (.inl r)) u') args s (xk_A ads s.heap.size)) (F0 m 5 ls []) := by
      intro c0 c1 u H locs ls h hP hS hl
      subst ek5
      exact ih h hP hS hl
    clear ih ek5
    refine lv_iload hx hb dd_Numbers_leading_5 (lv_at hl 1 rfl) ?_
    refine lv_bipush (v := 32) hx hb dd_Numbers_leading_7 (by decide) ?_
    refine lv_icmp_gt (tgt := 28) hx hb dd_Numbers_leading_9 (by decide) (fun hc => ?_) (fun hc => ?_)
    · have h := xp_t hc h
      refine lv_lload_n hx hb dd_Numbers_leading_28 rfl (lv_at hl 0 rfl) ?_
      refine lv_ldc2 (v := (-1)) hx hb C.1.2.2.2.1 (C.1.2.2.2.2 _ (xk_c7 (w := Jvm.Cond.constantLong "ModuleHouse$Numbers" 17 (-1)) 34 rfl rfl)) dd_Numbers_leading_29 ?_
      refine lv_lxor hx hb dd_Numbers_leading_32 ?_
      obtain ⟨a1, u2, hq, h⟩ := xp_seq h
      refine xk_goesI (xr_S (As := [.long (b2 ^^^ (-1 : Int64))]) (rest := []) C hP hS (ct_Long_bitCount__h htr hok hq) kq_Numbers_31 ⟨rfl, rfl, Nat.le_of_ble_eq_true rfl, Nat.le_of_ble_eq_true rfl⟩ ⟨Nat.le_of_ble_eq_true rfl, Nat.le_of_ble_eq_true rfl⟩ hl.1 rfl rfl (Nat.le_of_ble_eq_true rfl) dd_Numbers_leading_33) hS (fun H locs hP hS => ?_)
      clear hq
      obtain ⟨rfl, rfl⟩ := xp_r h
      exact xr_iret C hP hS dd_Numbers_leading_36
    · have h := xp_f hc h
      refine lv_lload_n hx hb dd_Numbers_leading_12 rfl (lv_at hl 0 rfl) ?_
      refine lv_lload_n hx hb dd_Numbers_leading_13 rfl (lv_at hl 0 rfl) ?_
      refine lv_iload hx hb dd_Numbers_leading_14 (lv_at hl 1 rfl) ?_
      refine lv_lushr hx hb dd_Numbers_leading_16 rfl ?_
      refine lv_lor hx hb dd_Numbers_leading_17 ?_
      obtain ⟨a3, ea3, h⟩ := xp_let h
      refine xr_naml ea3 ?_
      refine lv_lstore_n (lv' := [(2, .long a3), (4, .int b4)]) hx hb dd_Numbers_leading_18 rfl hl (by decide) rfl (fun ls hl => ?_)
      refine lv_iload hx hb dd_Numbers_leading_19 (lv_at hl 1 rfl) ?_
      refine lv_iconst (v := 2) hx hb dd_Numbers_leading_21 (by decide) ?_
      refine lv_imul hx hb dd_Numbers_leading_22 ?_
      obtain ⟨a4, ea4, h⟩ := xp_let h
      refine xr_nami ea4 ?_
      refine lv_istore (lv' := [(4, .int a4), (2, .long a3)]) hx hb dd_Numbers_leading_23 hl (by decide) rfl (fun ls hl => ?_)
      refine lv_goto (tgt := 5) hx hb dd_Numbers_leading_25 (by decide) ?_
      exact hk5 a3 a4 u _ _ _ h hP hS (lv_sub hl [1, 0] rfl)
set_option maxHeartbeats 4000000 in
set_option maxRecDepth 100000 in
theorem ct_Numbers_leading {l : Launch} {D : va_G} {ad : Nat → Nat} {ca : Nat → ClassId} {ads : List Nat} (htr : l.stackTraces = false) (hok : xk_ok (kw_h ad ca) ads) {fu : Nat} {x0 : Int64} {u u' : xk_St} {r : Int32} (h : fm_Numbers_leading fu x0 u = some (r, u')) :
    ∀ sz, xk_Met l ⟨"ModuleHouse$Numbers", "leading", "(J)I"⟩ (Cond.code ⟨"ModuleHouse$Numbers", "leading", "(J)I"⟩ prog_7_method_7_code 5 (some .int) :: xk_gd) rm_Numbers_leading (xk_Pc D kx_cl (kx_ty ca) (kw_h ad ca) ads xk_F sz [.long x0] u) (xk_Qc D kx_cl (kw_h ad ca) ads (xo_i (.inl r)) u') (xk_A ads sz) := by
  unfold fm_Numbers_leading at h
  refine xk_con (by decide) htr hok (Nat.le_of_ble_eq_true rfl) (fun p e s m below meth c ls C hne hl hP => ?_)
  have hx := C.1.1
  have hb := C.1.2.1
  have hS : va_S (xk_A ads s.heap.size) s.heap s.heap [] := va_S.rf
  have hl : lv_has ls 5 [(0, .long x0)] := hl
  refine lv_lload_n hx hb dd_Numbers_leading_0 rfl (lv_at hl 0 rfl) ?_
  refine lv_lstore_n (lv' := [(2, .long x0), (0, .long x0)]) hx hb dd_Numbers_leading_1 rfl hl (by decide) rfl (fun ls hl => ?_)
  refine lv_iconst (v := 1) hx hb dd_Numbers_leading_2 (by decide) ?_
  refine lv_istore (lv' := [(4, .int (1 : Int32)), (2, .long x0), (0, .long x0)]) hx hb dd_Numbers_leading_3 hl (by decide) rfl (fun ls hl => ?_)
  exact wj_Numbers_leading_5 htr C hne h hP hS (lv_sub hl [1, 0] rfl)
abbrev rm_Numbers_counted64 : Room := { frames := 3, cells := 1, slots := 6, locals := 45 }
noncomputable def fm_Numbers_counted64 (fu : Nat) (x0 : Int32) (x1 : Int64) (u : xk_St) : Option (Int32 × xk_St) :=
  if x0 = (121 : Int32) then ((xs_seq (fm_Numbers_leading fu x1 u) fun a1 u2 => some (a1, u2))) else if x0 = (122 : Int32) then ((xs_seq (fm_Long_bitCount__h ((x1 - (1 : Int64)) &&& (x1 ^^^ (-1 : Int64))) u) fun a3 u4 => some (a3, u4))) else ((xs_seq (fm_Long_bitCount__h x1 u) fun a5 u6 => some (a5, u6)))
set_option maxHeartbeats 4000000 in
set_option maxRecDepth 100000 in
theorem ct_Numbers_counted64 {l : Launch} {D : va_G} {ad : Nat → Nat} {ca : Nat → ClassId} {ads : List Nat} (htr : l.stackTraces = false) (hok : xk_ok (kw_h ad ca) ads) {fu : Nat} {x0 : Int32} {x1 : Int64} {u u' : xk_St} {r : Int32} (h : fm_Numbers_counted64 fu x0 x1 u = some (r, u')) :
    ∀ sz, xk_Met l ⟨"ModuleHouse$Numbers", "counted64", "(IJ)I"⟩ (Cond.code ⟨"ModuleHouse$Numbers", "counted64", "(IJ)I"⟩ prog_7_method_6_code 3 (some .int) :: xk_gd) rm_Numbers_counted64 (xk_Pc D kx_cl (kx_ty ca) (kw_h ad ca) ads xk_F sz [.int x0, .long x1] u) (xk_Qc D kx_cl (kw_h ad ca) ads (xo_i (.inl r)) u') (xk_A ads sz) := by
  unfold fm_Numbers_counted64 at h
  refine xk_con (by decide) htr hok (Nat.le_of_ble_eq_true rfl) (fun p e s m below meth c ls C hne hl hP => ?_)
  have hx := C.1.1
  have hb := C.1.2.1
  have hS : va_S (xk_A ads s.heap.size) s.heap s.heap [] := va_S.rf
  have hl : lv_has ls 3 [(0, .int x0), (1, .long x1)] := hl
  refine lv_iload_n hx hb dd_Numbers_counted64_0 rfl (lv_at hl 0 rfl) ?_
  by_cases hc0 : x0 = (121 : Int32)
  · have h := xp_t hc0 h
    refine lv_lookup (off := 27) (tgt := 28) hx hb dd_Numbers_counted64_1 (by decide) (by rw [hc0]; rfl) (by decide) ?_
    refine lv_lload_n hx hb dd_Numbers_counted64_28 rfl (lv_at hl 1 rfl) ?_
    obtain ⟨a1, u2, hq, h⟩ := xp_seq h
    refine xk_goesI (xr_S (As := [.long x1]) (rest := []) C hP hS (ct_Numbers_leading htr hok hq) kq_Numbers_21 ⟨rfl, rfl, Nat.le_of_ble_eq_true rfl, Nat.le_of_ble_eq_true rfl⟩ ⟨Nat.le_of_ble_eq_true rfl, Nat.le_of_ble_eq_true rfl⟩ hl.1 rfl rfl (Nat.le_of_ble_eq_true rfl) dd_Numbers_counted64_29) hS (fun H locs hP hS => ?_)
    clear hq
    refine lv_goto (tgt := 54) hx hb dd_Numbers_counted64_32 (by decide) ?_
    obtain ⟨rfl, rfl⟩ := xp_r h
    exact xr_iret C hP hS dd_Numbers_counted64_54
  have h := xp_f hc0 h
  by_cases hc1 : x0 = (122 : Int32)
  · have h := xp_t hc1 h
    refine lv_lookup (off := 34) (tgt := 35) hx hb dd_Numbers_counted64_1 (by decide) (by rw [hc1]; rfl) (by decide) ?_
    refine lv_lload_n hx hb dd_Numbers_counted64_35 rfl (lv_at hl 1 rfl) ?_
    refine lv_lconst (v := 1) hx hb dd_Numbers_counted64_36 (by decide) ?_
    refine lv_lsub hx hb dd_Numbers_counted64_37 ?_
    refine lv_lload_n hx hb dd_Numbers_counted64_38 rfl (lv_at hl 1 rfl) ?_
    refine lv_ldc2 (v := (-1)) hx hb C.1.2.2.2.1 (C.1.2.2.2.2 _ (xk_c7 (w := Jvm.Cond.constantLong "ModuleHouse$Numbers" 17 (-1)) 34 rfl rfl)) dd_Numbers_counted64_39 ?_
    refine lv_lxor hx hb dd_Numbers_counted64_42 ?_
    refine lv_land hx hb dd_Numbers_counted64_43 ?_
    obtain ⟨a3, u4, hq, h⟩ := xp_seq h
    refine xk_goesI (xr_S (As := [.long ((x1 - (1 : Int64)) &&& (x1 ^^^ (-1 : Int64)))]) (rest := []) C hP hS (ct_Long_bitCount__h htr hok hq) kq_Numbers_31 ⟨rfl, rfl, Nat.le_of_ble_eq_true rfl, Nat.le_of_ble_eq_true rfl⟩ ⟨Nat.le_of_ble_eq_true rfl, Nat.le_of_ble_eq_true rfl⟩ hl.1 rfl rfl (Nat.le_of_ble_eq_true rfl) dd_Numbers_counted64_44) hS (fun H locs hP hS => ?_)
    clear hq
    refine lv_goto (tgt := 54) hx hb dd_Numbers_counted64_47 (by decide) ?_
    obtain ⟨rfl, rfl⟩ := xp_r h
    exact xr_iret C hP hS dd_Numbers_counted64_54
  have h := xp_f hc1 h
  refine lv_lookup (off := 49) (tgt := 50) hx hb dd_Numbers_counted64_1 (by decide) ((lv_osw hc0 (by decide)).trans ((lv_osw hc1 (by decide)).trans rfl)) (by decide) ?_
  refine lv_lload_n hx hb dd_Numbers_counted64_50 rfl (lv_at hl 1 rfl) ?_
  obtain ⟨a5, u6, hq, h⟩ := xp_seq h
  refine xk_goesI (xr_S (As := [.long x1]) (rest := []) C hP hS (ct_Long_bitCount__h htr hok hq) kq_Numbers_31 ⟨rfl, rfl, Nat.le_of_ble_eq_true rfl, Nat.le_of_ble_eq_true rfl⟩ ⟨Nat.le_of_ble_eq_true rfl, Nat.le_of_ble_eq_true rfl⟩ hl.1 rfl rfl (Nat.le_of_ble_eq_true rfl) dd_Numbers_counted64_51) hS (fun H locs hP hS => ?_)
  clear hq
  obtain ⟨rfl, rfl⟩ := xp_r h
  exact xr_iret C hP hS dd_Numbers_counted64_54
abbrev rm_Numbers_answer32 : Room := { frames := 1, cells := 1, slots := 6, locals := 0 }
noncomputable def fm_Numbers_answer32 (x0 : Int32) (x1 : Int32) (x2 : Int32) (u : xk_St) : Option (Int32 × xk_St) :=
  if x0 = (0 : Int32) then (some ((x1 + x2), u)) else if x0 = (1 : Int32) then (some ((x1 - x2), u)) else if x0 = (2 : Int32) then (some ((x1 * x2), u)) else if x0 = (3 : Int32) then ((if x2 = (0 : Int32) then none else some ((x1 / x2), u))) else if x0 = (4 : Int32) then ((if (x2.toInt64) &&& (4294967295 : Int64) = (0 : Int64) then none else some (((((x1.toInt64) &&& (4294967295 : Int64)) / ((x2.toInt64) &&& (4294967295 : Int64))).toInt32), u))) else if x0 = (5 : Int32) then ((if x2 = (0 : Int32) then none else some ((x1 - x1 / x2 * x2), u))) else if x0 = (6 : Int32) then ((if (x2.toInt64) &&& (4294967295 : Int64) = (0 : Int64) then none else some (((((x1.toInt64) &&& (4294967295 : Int64)) - ((x1.toInt64) &&& (4294967295 : Int64)) / ((x2.toInt64) &&& (4294967295 : Int64)) * ((x2.toInt64) &&& (4294967295 : Int64))).toInt32), u))) else if x0 = (7 : Int32) then (some ((x1 &&& x2), u)) else if x0 = (8 : Int32) then (some ((x1 ||| x2), u)) else if x0 = (9 : Int32) then (some ((x1 ^^^ x2), u)) else if x0 = (10 : Int32) then (some ((x1 <<< (x2 &&& 31)), u)) else if x0 = (11 : Int32) then (some ((x1 >>> (x2 &&& 31)), u)) else if x0 = (12 : Int32) then (some (((x1.toUInt32 >>> (x2.toUInt32 &&& Int32.toUInt32 31)).toInt32), u)) else if x0 = (13 : Int32) then (some (((x1 <<< (x2 &&& 31)) ||| ((x1.toUInt32 >>> ((-x2).toUInt32 &&& Int32.toUInt32 31)).toInt32)), u)) else (some ((((x1.toUInt32 >>> (x2.toUInt32 &&& Int32.toUInt32 31)).toInt32) ||| (x1 <<< ((-x2) &&& 31))), u))
set_option maxHeartbeats 4000000 in
set_option maxRecDepth 100000 in
theorem ct_Numbers_answer32 {l : Launch} {D : va_G} {ad : Nat → Nat} {ca : Nat → ClassId} {ads : List Nat} (htr : l.stackTraces = false) (hok : xk_ok (kw_h ad ca) ads) {x0 : Int32} {x1 : Int32} {x2 : Int32} {u u' : xk_St} {r : Int32} (h : fm_Numbers_answer32 x0 x1 x2 u = some (r, u')) :
    ∀ sz, xk_Met l ⟨"ModuleHouse$Numbers", "answer32", "(III)I"⟩ (Cond.code ⟨"ModuleHouse$Numbers", "answer32", "(III)I"⟩ prog_7_method_8_code 3 (some .int) :: xk_gd) rm_Numbers_answer32 (xk_Pc D kx_cl (kx_ty ca) (kw_h ad ca) ads xk_F sz [.int x0, .int x1, .int x2] u) (xk_Qc D kx_cl (kw_h ad ca) ads (xo_i (.inl r)) u') (xk_A ads sz) := by
  unfold fm_Numbers_answer32 at h
  refine xk_con (by decide) htr hok (Nat.le_of_ble_eq_true rfl) (fun p e s m below meth c ls C hne hl hP => ?_)
  have hx := C.1.1
  have hb := C.1.2.1
  have hS : va_S (xk_A ads s.heap.size) s.heap s.heap [] := va_S.rf
  have hl : lv_has ls 3 [(0, .int x0), (1, .int x1), (2, .int x2)] := hl
  refine lv_iload_n hx hb dd_Numbers_answer32_0 rfl (lv_at hl 0 rfl) ?_
  by_cases hc0 : x0 = (0 : Int32)
  · have h := xp_t hc0 h
    refine lv_tableIn (off := 71) (tgt := 72) hx hb dd_Numbers_answer32_1 (by rw [hc0]; decide) (by rw [hc0]; decide) (by rw [hc0]; rfl) (by decide) ?_
    refine lv_iload_n hx hb dd_Numbers_answer32_72 rfl (lv_at hl 1 rfl) ?_
    refine lv_iload_n hx hb dd_Numbers_answer32_73 rfl (lv_at hl 2 rfl) ?_
    refine lv_iadd hx hb dd_Numbers_answer32_74 ?_
    refine lv_goto (tgt := 191) hx hb dd_Numbers_answer32_75 (by decide) ?_
    obtain ⟨rfl, rfl⟩ := xp_r h
    exact xr_iret C hP hS dd_Numbers_answer32_191
  have h := xp_f hc0 h
  by_cases hc1 : x0 = (1 : Int32)
  · have h := xp_t hc1 h
    refine lv_tableIn (off := 77) (tgt := 78) hx hb dd_Numbers_answer32_1 (by rw [hc1]; decide) (by rw [hc1]; decide) (by rw [hc1]; rfl) (by decide) ?_
    refine lv_iload_n hx hb dd_Numbers_answer32_78 rfl (lv_at hl 1 rfl) ?_
    refine lv_iload_n hx hb dd_Numbers_answer32_79 rfl (lv_at hl 2 rfl) ?_
    refine lv_isub hx hb dd_Numbers_answer32_80 ?_
    refine lv_goto (tgt := 191) hx hb dd_Numbers_answer32_81 (by decide) ?_
    obtain ⟨rfl, rfl⟩ := xp_r h
    exact xr_iret C hP hS dd_Numbers_answer32_191
  have h := xp_f hc1 h
  by_cases hc2 : x0 = (2 : Int32)
  · have h := xp_t hc2 h
    refine lv_tableIn (off := 83) (tgt := 84) hx hb dd_Numbers_answer32_1 (by rw [hc2]; decide) (by rw [hc2]; decide) (by rw [hc2]; rfl) (by decide) ?_
    refine lv_iload_n hx hb dd_Numbers_answer32_84 rfl (lv_at hl 1 rfl) ?_
    refine lv_iload_n hx hb dd_Numbers_answer32_85 rfl (lv_at hl 2 rfl) ?_
    refine lv_imul hx hb dd_Numbers_answer32_86 ?_
    refine lv_goto (tgt := 191) hx hb dd_Numbers_answer32_87 (by decide) ?_
    obtain ⟨rfl, rfl⟩ := xp_r h
    exact xr_iret C hP hS dd_Numbers_answer32_191
  have h := xp_f hc2 h
  by_cases hc3 : x0 = (3 : Int32)
  · have h := xp_t hc3 h
    refine lv_tableIn (off := 89) (tgt := 90) hx hb dd_Numbers_answer32_1 (by rw [hc3]; decide) (by rw [hc3]; decide) (by rw [hc3]; rfl) (by decide) ?_
    refine lv_iload_n hx hb dd_Numbers_answer32_90 rfl (lv_at hl 1 rfl) ?_
    refine lv_iload_n hx hb dd_Numbers_answer32_91 rfl (lv_at hl 2 rfl) ?_
    obtain ⟨hz, h⟩ := xp_g h
    refine lv_idiv hx hb dd_Numbers_answer32_92 hz ?_
    refine lv_goto (tgt := 191) hx hb dd_Numbers_answer32_93 (by decide) ?_
    obtain ⟨rfl, rfl⟩ := xp_r h
    exact xr_iret C hP hS dd_Numbers_answer32_191
  have h := xp_f hc3 h
  by_cases hc4 : x0 = (4 : Int32)
  · have h := xp_t hc4 h
    refine lv_tableIn (off := 95) (tgt := 96) hx hb dd_Numbers_answer32_1 (by rw [hc4]; decide) (by rw [hc4]; decide) (by rw [hc4]; rfl) (by decide) ?_
    refine lv_iload_n hx hb dd_Numbers_answer32_96 rfl (lv_at hl 1 rfl) ?_
    refine lv_i2l hx hb dd_Numbers_answer32_97 rfl ?_
    refine lv_ldc2 (v := 4294967295) hx hb C.1.2.2.2.1 (C.1.2.2.2.2 _ (xk_c7 (w := Jvm.Cond.constantLong "ModuleHouse$Numbers" 19 4294967295) 30 rfl rfl)) dd_Numbers_answer32_98 ?_
    refine lv_land hx hb dd_Numbers_answer32_101 ?_
    refine lv_iload_n hx hb dd_Numbers_answer32_102 rfl (lv_at hl 2 rfl) ?_
    refine lv_i2l hx hb dd_Numbers_answer32_103 rfl ?_
    refine lv_ldc2 (v := 4294967295) hx hb C.1.2.2.2.1 (C.1.2.2.2.2 _ (xk_c7 (w := Jvm.Cond.constantLong "ModuleHouse$Numbers" 19 4294967295) 30 rfl rfl)) dd_Numbers_answer32_104 ?_
    refine lv_land hx hb dd_Numbers_answer32_107 ?_
    obtain ⟨hz, h⟩ := xp_g h
    refine lv_ldiv hx hb dd_Numbers_answer32_108 hz ?_
    refine lv_l2i hx hb dd_Numbers_answer32_109 rfl ?_
    refine lv_goto (tgt := 191) hx hb dd_Numbers_answer32_110 (by decide) ?_
    obtain ⟨rfl, rfl⟩ := xp_r h
    exact xr_iret C hP hS dd_Numbers_answer32_191
  have h := xp_f hc4 h
  by_cases hc5 : x0 = (5 : Int32)
  · have h := xp_t hc5 h
    refine lv_tableIn (off := 112) (tgt := 113) hx hb dd_Numbers_answer32_1 (by rw [hc5]; decide) (by rw [hc5]; decide) (by rw [hc5]; rfl) (by decide) ?_
    refine lv_iload_n hx hb dd_Numbers_answer32_113 rfl (lv_at hl 1 rfl) ?_
    refine lv_iload_n hx hb dd_Numbers_answer32_114 rfl (lv_at hl 2 rfl) ?_
    obtain ⟨hz, h⟩ := xp_g h
    refine lv_irem hx hb dd_Numbers_answer32_115 hz ?_
    refine lv_goto (tgt := 191) hx hb dd_Numbers_answer32_116 (by decide) ?_
    obtain ⟨rfl, rfl⟩ := xp_r h
    exact xr_iret C hP hS dd_Numbers_answer32_191
  have h := xp_f hc5 h
  by_cases hc6 : x0 = (6 : Int32)
  · have h := xp_t hc6 h
    refine lv_tableIn (off := 118) (tgt := 119) hx hb dd_Numbers_answer32_1 (by rw [hc6]; decide) (by rw [hc6]; decide) (by rw [hc6]; rfl) (by decide) ?_
    refine lv_iload_n hx hb dd_Numbers_answer32_119 rfl (lv_at hl 1 rfl) ?_
    refine lv_i2l hx hb dd_Numbers_answer32_120 rfl ?_
    refine lv_ldc2 (v := 4294967295) hx hb C.1.2.2.2.1 (C.1.2.2.2.2 _ (xk_c7 (w := Jvm.Cond.constantLong "ModuleHouse$Numbers" 19 4294967295) 30 rfl rfl)) dd_Numbers_answer32_121 ?_
    refine lv_land hx hb dd_Numbers_answer32_124 ?_
    refine lv_iload_n hx hb dd_Numbers_answer32_125 rfl (lv_at hl 2 rfl) ?_
    refine lv_i2l hx hb dd_Numbers_answer32_126 rfl ?_
    refine lv_ldc2 (v := 4294967295) hx hb C.1.2.2.2.1 (C.1.2.2.2.2 _ (xk_c7 (w := Jvm.Cond.constantLong "ModuleHouse$Numbers" 19 4294967295) 30 rfl rfl)) dd_Numbers_answer32_127 ?_
    refine lv_land hx hb dd_Numbers_answer32_130 ?_
    obtain ⟨hz, h⟩ := xp_g h
    refine lv_lrem hx hb dd_Numbers_answer32_131 hz ?_
    refine lv_l2i hx hb dd_Numbers_answer32_132 rfl ?_
    refine lv_goto (tgt := 191) hx hb dd_Numbers_answer32_133 (by decide) ?_
    obtain ⟨rfl, rfl⟩ := xp_r h
    exact xr_iret C hP hS dd_Numbers_answer32_191
  have h := xp_f hc6 h
  by_cases hc7 : x0 = (7 : Int32)
  · have h := xp_t hc7 h
    refine lv_tableIn (off := 135) (tgt := 136) hx hb dd_Numbers_answer32_1 (by rw [hc7]; decide) (by rw [hc7]; decide) (by rw [hc7]; rfl) (by decide) ?_
    refine lv_iload_n hx hb dd_Numbers_answer32_136 rfl (lv_at hl 1 rfl) ?_
    refine lv_iload_n hx hb dd_Numbers_answer32_137 rfl (lv_at hl 2 rfl) ?_
    refine lv_iand hx hb dd_Numbers_answer32_138 ?_
    refine lv_goto (tgt := 191) hx hb dd_Numbers_answer32_139 (by decide) ?_
    obtain ⟨rfl, rfl⟩ := xp_r h
    exact xr_iret C hP hS dd_Numbers_answer32_191
  have h := xp_f hc7 h
  by_cases hc8 : x0 = (8 : Int32)
  · have h := xp_t hc8 h
    refine lv_tableIn (off := 141) (tgt := 142) hx hb dd_Numbers_answer32_1 (by rw [hc8]; decide) (by rw [hc8]; decide) (by rw [hc8]; rfl) (by decide) ?_
    refine lv_iload_n hx hb dd_Numbers_answer32_142 rfl (lv_at hl 1 rfl) ?_
    refine lv_iload_n hx hb dd_Numbers_answer32_143 rfl (lv_at hl 2 rfl) ?_
    refine lv_ior hx hb dd_Numbers_answer32_144 ?_
    refine lv_goto (tgt := 191) hx hb dd_Numbers_answer32_145 (by decide) ?_
    obtain ⟨rfl, rfl⟩ := xp_r h
    exact xr_iret C hP hS dd_Numbers_answer32_191
  have h := xp_f hc8 h
  by_cases hc9 : x0 = (9 : Int32)
  · have h := xp_t hc9 h
    refine lv_tableIn (off := 147) (tgt := 148) hx hb dd_Numbers_answer32_1 (by rw [hc9]; decide) (by rw [hc9]; decide) (by rw [hc9]; rfl) (by decide) ?_
    refine lv_iload_n hx hb dd_Numbers_answer32_148 rfl (lv_at hl 1 rfl) ?_
    refine lv_iload_n hx hb dd_Numbers_answer32_149 rfl (lv_at hl 2 rfl) ?_
    refine lv_ixor hx hb dd_Numbers_answer32_150 ?_
    refine lv_goto (tgt := 191) hx hb dd_Numbers_answer32_151 (by decide) ?_
    obtain ⟨rfl, rfl⟩ := xp_r h
    exact xr_iret C hP hS dd_Numbers_answer32_191
  have h := xp_f hc9 h
  by_cases hc10 : x0 = (10 : Int32)
  · have h := xp_t hc10 h
    refine lv_tableIn (off := 153) (tgt := 154) hx hb dd_Numbers_answer32_1 (by rw [hc10]; decide) (by rw [hc10]; decide) (by rw [hc10]; rfl) (by decide) ?_
    refine lv_iload_n hx hb dd_Numbers_answer32_154 rfl (lv_at hl 1 rfl) ?_
    refine lv_iload_n hx hb dd_Numbers_answer32_155 rfl (lv_at hl 2 rfl) ?_
    refine lv_ishl hx hb dd_Numbers_answer32_156 ?_
    refine lv_goto (tgt := 191) hx hb dd_Numbers_answer32_157 (by decide) ?_
    obtain ⟨rfl, rfl⟩ := xp_r h
    exact xr_iret C hP hS dd_Numbers_answer32_191
  have h := xp_f hc10 h
  by_cases hc11 : x0 = (11 : Int32)
  · have h := xp_t hc11 h
    refine lv_tableIn (off := 159) (tgt := 160) hx hb dd_Numbers_answer32_1 (by rw [hc11]; decide) (by rw [hc11]; decide) (by rw [hc11]; rfl) (by decide) ?_
    refine lv_iload_n hx hb dd_Numbers_answer32_160 rfl (lv_at hl 1 rfl) ?_
    refine lv_iload_n hx hb dd_Numbers_answer32_161 rfl (lv_at hl 2 rfl) ?_
    refine lv_ishr hx hb dd_Numbers_answer32_162 ?_
    refine lv_goto (tgt := 191) hx hb dd_Numbers_answer32_163 (by decide) ?_
    obtain ⟨rfl, rfl⟩ := xp_r h
    exact xr_iret C hP hS dd_Numbers_answer32_191
  have h := xp_f hc11 h
  by_cases hc12 : x0 = (12 : Int32)
  · have h := xp_t hc12 h
    refine lv_tableIn (off := 165) (tgt := 166) hx hb dd_Numbers_answer32_1 (by rw [hc12]; decide) (by rw [hc12]; decide) (by rw [hc12]; rfl) (by decide) ?_
    refine lv_iload_n hx hb dd_Numbers_answer32_166 rfl (lv_at hl 1 rfl) ?_
    refine lv_iload_n hx hb dd_Numbers_answer32_167 rfl (lv_at hl 2 rfl) ?_
    refine lv_iushr hx hb dd_Numbers_answer32_168 rfl ?_
    refine lv_goto (tgt := 191) hx hb dd_Numbers_answer32_169 (by decide) ?_
    obtain ⟨rfl, rfl⟩ := xp_r h
    exact xr_iret C hP hS dd_Numbers_answer32_191
  have h := xp_f hc12 h
  by_cases hc13 : x0 = (13 : Int32)
  · have h := xp_t hc13 h
    refine lv_tableIn (off := 171) (tgt := 172) hx hb dd_Numbers_answer32_1 (by rw [hc13]; decide) (by rw [hc13]; decide) (by rw [hc13]; rfl) (by decide) ?_
    refine lv_iload_n hx hb dd_Numbers_answer32_172 rfl (lv_at hl 1 rfl) ?_
    refine lv_iload_n hx hb dd_Numbers_answer32_173 rfl (lv_at hl 2 rfl) ?_
    refine lv_ishl hx hb dd_Numbers_answer32_174 ?_
    refine lv_iload_n hx hb dd_Numbers_answer32_175 rfl (lv_at hl 1 rfl) ?_
    refine lv_iload_n hx hb dd_Numbers_answer32_176 rfl (lv_at hl 2 rfl) ?_
    refine lv_ineg hx hb dd_Numbers_answer32_177 ?_
    refine lv_iushr hx hb dd_Numbers_answer32_178 rfl ?_
    refine lv_ior hx hb dd_Numbers_answer32_179 ?_
    refine lv_goto (tgt := 191) hx hb dd_Numbers_answer32_180 (by decide) ?_
    obtain ⟨rfl, rfl⟩ := xp_r h
    exact xr_iret C hP hS dd_Numbers_answer32_191
  have h := xp_f hc13 h
  have hd0 := lv_neT hc0 (a := 0) (by decide)
  have hd1 := lv_neT hc1 (a := 1) (by decide)
  have hd2 := lv_neT hc2 (a := 2) (by decide)
  have hd3 := lv_neT hc3 (a := 3) (by decide)
  have hd4 := lv_neT hc4 (a := 4) (by decide)
  have hd5 := lv_neT hc5 (a := 5) (by decide)
  have hd6 := lv_neT hc6 (a := 6) (by decide)
  have hd7 := lv_neT hc7 (a := 7) (by decide)
  have hd8 := lv_neT hc8 (a := 8) (by decide)
  have hd9 := lv_neT hc9 (a := 9) (by decide)
  have hd10 := lv_neT hc10 (a := 10) (by decide)
  have hd11 := lv_neT hc11 (a := 11) (by decide)
  have hd12 := lv_neT hc12 (a := 12) (by decide)
  have hd13 := lv_neT hc13 (a := 13) (by decide)
  refine lv_tableOut (tgt := 183) hx hb dd_Numbers_answer32_1 (by omega) (by decide) ?_
  refine lv_iload_n hx hb dd_Numbers_answer32_183 rfl (lv_at hl 1 rfl) ?_
  refine lv_iload_n hx hb dd_Numbers_answer32_184 rfl (lv_at hl 2 rfl) ?_
  refine lv_iushr hx hb dd_Numbers_answer32_185 rfl ?_
  refine lv_iload_n hx hb dd_Numbers_answer32_186 rfl (lv_at hl 1 rfl) ?_
  refine lv_iload_n hx hb dd_Numbers_answer32_187 rfl (lv_at hl 2 rfl) ?_
  refine lv_ineg hx hb dd_Numbers_answer32_188 ?_
  refine lv_ishl hx hb dd_Numbers_answer32_189 ?_
  refine lv_ior hx hb dd_Numbers_answer32_190 ?_
  obtain ⟨rfl, rfl⟩ := xp_r h
  exact xr_iret C hP hS dd_Numbers_answer32_191
abbrev rm_Machine_compute32 : Room := { frames := 2, cells := 1, slots := 6, locals := 26 }
noncomputable def fm_Machine_compute32 (x0 : Int32) (u : xk_St) : Option (Unit × xk_St) :=
  (xs_seq (fm_Values_pop__h61 u) fun a1 u2 => xs_let (a1.toInt32) fun a3 => xs_seq (fm_Values_pop__h61 u2) fun a4 u5 => xs_let (a4.toInt32) fun a6 => xs_seq (fm_Numbers_trapOf x0 (a6.toInt64) (a3.toInt64) (-2147483648 : Int64) u5) fun a7 u8 => xs_let (xs_I u8 27 a7) fun u9 => if (u9.1 27) = (0 : Int32) then ((xs_seq (fm_Numbers_answer32 x0 a6 a3 u9) fun a10 u11 => xs_seq (fm_Values_push__h61 (a10.toInt64) u11) fun _ u12 => some ((()), u12))) else (some ((()), u9)))
set_option maxHeartbeats 4000000 in
set_option maxRecDepth 100000 in
theorem ct_Machine_compute32 {l : Launch} {D : va_G} {ad : Nat → Nat} {ca : Nat → ClassId} {ads : List Nat} (htr : l.stackTraces = false) (hok : xk_ok (kw_h ad ca) ads) {x0 : Int32} {u u' : xk_St} {r : Unit} (h : fm_Machine_compute32 x0 u = some (r, u')) :
    ∀ sz, xk_Met l ⟨"ModuleHouse$Machine", "compute32", "(I)V"⟩ (Cond.code ⟨"ModuleHouse$Machine", "compute32", "(I)V"⟩ prog_5_method_17_code 4 none :: xk_gd) rm_Machine_compute32 (xk_Pc D kx_cl (kx_ty ca) (kw_h ad ca) ads xk_F sz [.ref (ad 60), .int x0] u) (xk_Qc D kx_cl (kw_h ad ca) ads (xo_v (.inl r)) u') (xk_A ads sz) := by
  unfold fm_Machine_compute32 at h
  refine xk_con (by decide) htr hok (Nat.le_of_ble_eq_true rfl) (fun p e s m below meth c ls C hne hl hP => ?_)
  have hx := C.1.1
  have hb := C.1.2.1
  have hS : va_S (xk_A ads s.heap.size) s.heap s.heap [] := va_S.rf
  have hl : lv_has ls 4 [(0, .ref (ad 60)), (1, .int x0)] := hl
  refine lv_aload_n hx hb dd_Machine_compute32_0 rfl (lv_at hl 0 rfl) ?_
  refine gf_h_Machine_60_values C hP dd_Machine_compute32_1 ?_
  obtain ⟨a1, u2, hq, h⟩ := xp_seq h
  refine xk_goesL (xr_V (As := []) (rest := []) C hP hS (ct_Values_pop__h61 htr hok hq) kq_Machine_245 61 10 rfl rfl ⟨rfl, rfl, Nat.le_of_ble_eq_true rfl, Nat.le_of_ble_eq_true rfl⟩ ⟨Nat.le_of_ble_eq_true rfl, Nat.le_of_ble_eq_true rfl⟩ hl.1 rfl rfl (Nat.le_of_ble_eq_true rfl) dd_Machine_compute32_4) hS (fun H locs hP hS => ?_)
  clear hq
  refine lv_l2i hx hb dd_Machine_compute32_7 rfl ?_
  obtain ⟨a3, ea3, h⟩ := xp_let h
  refine xr_nami ea3 ?_
  refine lv_istore_n (lv' := [(2, .int a3), (0, .ref (ad 60)), (1, .int x0)]) hx hb dd_Machine_compute32_8 rfl hl (by decide) rfl (fun ls hl => ?_)
  refine lv_aload_n hx hb dd_Machine_compute32_9 rfl (lv_at hl 1 rfl) ?_
  refine gf_h_Machine_60_values C hP dd_Machine_compute32_10 ?_
  obtain ⟨a4, u5, hq, h⟩ := xp_seq h
  refine xk_goesL (xr_V (As := []) (rest := []) C hP hS (ct_Values_pop__h61 htr hok hq) kq_Machine_245 61 10 rfl rfl ⟨rfl, rfl, Nat.le_of_ble_eq_true rfl, Nat.le_of_ble_eq_true rfl⟩ ⟨Nat.le_of_ble_eq_true rfl, Nat.le_of_ble_eq_true rfl⟩ hl.1 rfl rfl (Nat.le_of_ble_eq_true rfl) dd_Machine_compute32_13) hS (fun H locs hP hS => ?_)
  clear hq
  refine lv_l2i hx hb dd_Machine_compute32_16 rfl ?_
  obtain ⟨a6, ea6, h⟩ := xp_let h
  refine xr_nami ea6 ?_
  refine lv_istore_n (lv' := [(3, .int a6), (2, .int a3), (0, .ref (ad 60)), (1, .int x0)]) hx hb dd_Machine_compute32_17 rfl hl (by decide) rfl (fun ls hl => ?_)
  refine lv_aload_n hx hb dd_Machine_compute32_18 rfl (lv_at hl 2 rfl) ?_
  refine lv_iload_n hx hb dd_Machine_compute32_19 rfl (lv_at hl 3 rfl) ?_
  refine lv_iload_n hx hb dd_Machine_compute32_20 rfl (lv_at hl 0 rfl) ?_
  refine lv_i2l hx hb dd_Machine_compute32_21 rfl ?_
  refine lv_iload_n hx hb dd_Machine_compute32_22 rfl (lv_at hl 1 rfl) ?_
  refine lv_i2l hx hb dd_Machine_compute32_23 rfl ?_
  refine lv_ldc2 (v := (-2147483648)) hx hb C.1.2.2.2.1 (C.1.2.2.2.2 _ (xk_c7 (w := Jvm.Cond.constantLong "ModuleHouse$Machine" 325 (-2147483648)) 51 rfl rfl)) dd_Machine_compute32_24 ?_
  obtain ⟨a7, u8, hq, h⟩ := xp_seq h
  refine xk_goesI (xr_S (As := [.int x0, .long (a6.toInt64), .long (a3.toInt64), .long (-2147483648 : Int64)]) (rest := [.ref (ad 60)]) C hP hS (ct_Numbers_trapOf htr hok hq) kq_Machine_327 ⟨rfl, rfl, Nat.le_of_ble_eq_true rfl, Nat.le_of_ble_eq_true rfl⟩ ⟨Nat.le_of_ble_eq_true rfl, Nat.le_of_ble_eq_true rfl⟩ hl.1 rfl rfl (Nat.le_of_ble_eq_true rfl) dd_Machine_compute32_27) hS (fun H locs hP hS => ?_)
  clear hq
  refine pf_h_Machine_60_trap C hP hS dd_Machine_compute32_30 (fun H locs hP hS => ?_)
  obtain ⟨u9, eu9, h⟩ := xp_let h
  rw [← eu9] at hP
  refine lv_aload_n hx hb dd_Machine_compute32_33 rfl (lv_at hl 2 rfl) ?_
  refine gf_h_Machine_60_trap C hP dd_Machine_compute32_34 ?_
  refine lv_if_ne (tgt := 54) hx hb dd_Machine_compute32_37 (by decide) (fun hc => ?_) (fun hc => ?_)
  · have h := xp_f hc h
    obtain ⟨rfl, rfl⟩ := xp_r h
    exact xr_vret C hP hS dd_Machine_compute32_54
  · have h := xp_t hc h
    refine lv_aload_n hx hb dd_Machine_compute32_40 rfl (lv_at hl 2 rfl) ?_
    refine gf_h_Machine_60_values C hP dd_Machine_compute32_41 ?_
    refine lv_iload_n hx hb dd_Machine_compute32_44 rfl (lv_at hl 3 rfl) ?_
    refine lv_iload_n hx hb dd_Machine_compute32_45 rfl (lv_at hl 0 rfl) ?_
    refine lv_iload_n hx hb dd_Machine_compute32_46 rfl (lv_at hl 1 rfl) ?_
    obtain ⟨a10, u11, hq, h⟩ := xp_seq h
    refine xk_goesI (xr_S (As := [.int x0, .int a6, .int a3]) (rest := [.ref (ad 61)]) C hP hS (ct_Numbers_answer32 htr hok hq) kq_Machine_331 ⟨rfl, rfl, Nat.le_of_ble_eq_true rfl, Nat.le_of_ble_eq_true rfl⟩ ⟨Nat.le_of_ble_eq_true rfl, Nat.le_of_ble_eq_true rfl⟩ hl.1 rfl rfl (Nat.le_of_ble_eq_true rfl) dd_Machine_compute32_47) hS (fun H locs hP hS => ?_)
    clear hq
    refine lv_i2l hx hb dd_Machine_compute32_50 rfl ?_
    obtain ⟨rx, u12, hq, h⟩ := xp_seq h
    refine xk_goesV (xr_V (As := [.long (a10.toInt64)]) (rest := []) C hP hS (ct_Values_push__h61 htr hok hq) kq_Machine_99 61 10 rfl rfl ⟨rfl, rfl, Nat.le_of_ble_eq_true rfl, Nat.le_of_ble_eq_true rfl⟩ ⟨Nat.le_of_ble_eq_true rfl, Nat.le_of_ble_eq_true rfl⟩ hl.1 rfl rfl (Nat.le_of_ble_eq_true rfl) dd_Machine_compute32_51) hS (fun H locs hP hS => ?_)
    clear hq
    obtain ⟨rfl, rfl⟩ := xp_r h
    exact xr_vret C hP hS dd_Machine_compute32_54
abbrev rm_Integer_bitCount__h : Room := { frames := 1, cells := 1, slots := 6, locals := 0 }
noncomputable def fm_Integer_bitCount__h (x0 : Int32) (u : xk_St) : Option (Int32 × xk_St) :=
  (xs_let (x0 - (((x0.toUInt32 >>> ((1 : Int32).toUInt32 &&& Int32.toUInt32 31)).toInt32) &&& (1431655765 : Int32))) fun a1 => xs_let ((a1 &&& (858993459 : Int32)) + (((a1.toUInt32 >>> ((2 : Int32).toUInt32 &&& Int32.toUInt32 31)).toInt32) &&& (858993459 : Int32))) fun a2 => xs_let ((a2 + ((a2.toUInt32 >>> ((4 : Int32).toUInt32 &&& Int32.toUInt32 31)).toInt32)) &&& (252645135 : Int32)) fun a3 => xs_let (a3 + ((a3.toUInt32 >>> ((8 : Int32).toUInt32 &&& Int32.toUInt32 31)).toInt32)) fun a4 => xs_let (a4 + ((a4.toUInt32 >>> ((16 : Int32).toUInt32 &&& Int32.toUInt32 31)).toInt32)) fun a5 => some ((a5 &&& (63 : Int32)), u))
set_option maxHeartbeats 4000000 in
set_option maxRecDepth 100000 in
theorem ct_Integer_bitCount__h {l : Launch} {D : va_G} {ad : Nat → Nat} {ca : Nat → ClassId} {ads : List Nat} (htr : l.stackTraces = false) (hok : xk_ok (kw_h ad ca) ads) {x0 : Int32} {u u' : xk_St} {r : Int32} (h : fm_Integer_bitCount__h x0 u = some (r, u')) :
    ∀ sz, xk_Met l ⟨"java/lang/Integer", "bitCount", "(I)I"⟩ (Cond.code ⟨"java/lang/Integer", "bitCount", "(I)I"⟩ prog_20_method_49_code 1 (some .int) :: xk_gd) rm_Integer_bitCount__h (xk_Pc D kx_cl (kx_ty ca) (kw_h ad ca) ads xk_F sz [.int x0] u) (xk_Qc D kx_cl (kw_h ad ca) ads (xo_i (.inl r)) u') (xk_A ads sz) := by
  unfold fm_Integer_bitCount__h at h
  refine xk_con (by decide) htr hok (Nat.le_of_ble_eq_true rfl) (fun p e s m below meth c ls C hne hl hP => ?_)
  have hx := C.1.1
  have hb := C.1.2.1
  have hS : va_S (xk_A ads s.heap.size) s.heap s.heap [] := va_S.rf
  have hl : lv_has ls 1 [(0, .int x0)] := hl
  refine lv_iload_n hx hb dd_Integer_bitCount_0 rfl (lv_at hl 0 rfl) ?_
  refine lv_iload_n hx hb dd_Integer_bitCount_1 rfl (lv_at hl 0 rfl) ?_
  refine lv_iconst (v := 1) hx hb dd_Integer_bitCount_2 (by decide) ?_
  refine lv_iushr hx hb dd_Integer_bitCount_3 rfl ?_
  refine lv_ldcw (v := 1431655765) hx hb C.1.2.2.2.1 (C.1.2.2.2.2 _ (xk_c7 (w := Jvm.Cond.constant "java/lang/Integer" 265 1431655765) 44 rfl rfl)) dd_Integer_bitCount_4 ?_
  refine lv_iand hx hb dd_Integer_bitCount_7 ?_
  refine lv_isub hx hb dd_Integer_bitCount_8 ?_
  obtain ⟨a1, ea1, h⟩ := xp_let h
  refine xr_nami ea1 ?_
  refine lv_istore_n (lv' := [(0, .int a1)]) hx hb dd_Integer_bitCount_9 rfl hl (by decide) rfl (fun ls hl => ?_)
  refine lv_iload_n hx hb dd_Integer_bitCount_10 rfl (lv_at hl 0 rfl) ?_
  refine lv_ldcw (v := 858993459) hx hb C.1.2.2.2.1 (C.1.2.2.2.2 _ (xk_c7 (w := Jvm.Cond.constant "java/lang/Integer" 266 858993459) 45 rfl rfl)) dd_Integer_bitCount_11 ?_
  refine lv_iand hx hb dd_Integer_bitCount_14 ?_
  refine lv_iload_n hx hb dd_Integer_bitCount_15 rfl (lv_at hl 0 rfl) ?_
  refine lv_iconst (v := 2) hx hb dd_Integer_bitCount_16 (by decide) ?_
  refine lv_iushr hx hb dd_Integer_bitCount_17 rfl ?_
  refine lv_ldcw (v := 858993459) hx hb C.1.2.2.2.1 (C.1.2.2.2.2 _ (xk_c7 (w := Jvm.Cond.constant "java/lang/Integer" 266 858993459) 45 rfl rfl)) dd_Integer_bitCount_18 ?_
  refine lv_iand hx hb dd_Integer_bitCount_21 ?_
  refine lv_iadd hx hb dd_Integer_bitCount_22 ?_
  obtain ⟨a2, ea2, h⟩ := xp_let h
  refine xr_nami ea2 ?_
  refine lv_istore_n (lv' := [(0, .int a2)]) hx hb dd_Integer_bitCount_23 rfl hl (by decide) rfl (fun ls hl => ?_)
  refine lv_iload_n hx hb dd_Integer_bitCount_24 rfl (lv_at hl 0 rfl) ?_
  refine lv_iload_n hx hb dd_Integer_bitCount_25 rfl (lv_at hl 0 rfl) ?_
  refine lv_iconst (v := 4) hx hb dd_Integer_bitCount_26 (by decide) ?_
  refine lv_iushr hx hb dd_Integer_bitCount_27 rfl ?_
  refine lv_iadd hx hb dd_Integer_bitCount_28 ?_
  refine lv_ldcw (v := 252645135) hx hb C.1.2.2.2.1 (C.1.2.2.2.2 _ (xk_c7 (w := Jvm.Cond.constant "java/lang/Integer" 267 252645135) 46 rfl rfl)) dd_Integer_bitCount_29 ?_
  refine lv_iand hx hb dd_Integer_bitCount_32 ?_
  obtain ⟨a3, ea3, h⟩ := xp_let h
  refine xr_nami ea3 ?_
  refine lv_istore_n (lv' := [(0, .int a3)]) hx hb dd_Integer_bitCount_33 rfl hl (by decide) rfl (fun ls hl => ?_)
  refine lv_iload_n hx hb dd_Integer_bitCount_34 rfl (lv_at hl 0 rfl) ?_
  refine lv_iload_n hx hb dd_Integer_bitCount_35 rfl (lv_at hl 0 rfl) ?_
  refine lv_bipush (v := 8) hx hb dd_Integer_bitCount_36 (by decide) ?_
  refine lv_iushr hx hb dd_Integer_bitCount_38 rfl ?_
  refine lv_iadd hx hb dd_Integer_bitCount_39 ?_
  obtain ⟨a4, ea4, h⟩ := xp_let h
  refine xr_nami ea4 ?_
  refine lv_istore_n (lv' := [(0, .int a4)]) hx hb dd_Integer_bitCount_40 rfl hl (by decide) rfl (fun ls hl => ?_)
  refine lv_iload_n hx hb dd_Integer_bitCount_41 rfl (lv_at hl 0 rfl) ?_
  refine lv_iload_n hx hb dd_Integer_bitCount_42 rfl (lv_at hl 0 rfl) ?_
  refine lv_bipush (v := 16) hx hb dd_Integer_bitCount_43 (by decide) ?_
  refine lv_iushr hx hb dd_Integer_bitCount_45 rfl ?_
  refine lv_iadd hx hb dd_Integer_bitCount_46 ?_
  obtain ⟨a5, ea5, h⟩ := xp_let h
  refine xr_nami ea5 ?_
  refine lv_istore_n (lv' := [(0, .int a5)]) hx hb dd_Integer_bitCount_47 rfl hl (by decide) rfl (fun ls hl => ?_)
  refine lv_iload_n hx hb dd_Integer_bitCount_48 rfl (lv_at hl 0 rfl) ?_
  refine lv_bipush (v := 63) hx hb dd_Integer_bitCount_49 (by decide) ?_
  refine lv_iand hx hb dd_Integer_bitCount_51 ?_
  obtain ⟨rfl, rfl⟩ := xp_r h
  exact xr_iret C hP hS dd_Integer_bitCount_52
abbrev rm_Numbers_counted32 : Room := { frames := 3, cells := 1, slots := 6, locals := 45 }
noncomputable def fm_Numbers_counted32 (fu : Nat) (x0 : Int32) (x1 : Int32) (u : xk_St) : Option (Int32 × xk_St) :=
  if x0 = (103 : Int32) then ((xs_seq (fm_Numbers_leading fu ((x1.toInt64) &&& (4294967295 : Int64)) u) fun a1 u2 => some ((a1 - (32 : Int32)), u2))) else if x0 = (104 : Int32) then ((xs_seq (fm_Integer_bitCount__h ((x1 - (1 : Int32)) &&& (x1 ^^^ (-1 : Int32))) u) fun a3 u4 => some (a3, u4))) else ((xs_seq (fm_Integer_bitCount__h x1 u) fun a5 u6 => some (a5, u6)))
set_option maxHeartbeats 4000000 in
set_option maxRecDepth 100000 in
theorem ct_Numbers_counted32 {l : Launch} {D : va_G} {ad : Nat → Nat} {ca : Nat → ClassId} {ads : List Nat} (htr : l.stackTraces = false) (hok : xk_ok (kw_h ad ca) ads) {fu : Nat} {x0 : Int32} {x1 : Int32} {u u' : xk_St} {r : Int32} (h : fm_Numbers_counted32 fu x0 x1 u = some (r, u')) :
    ∀ sz, xk_Met l ⟨"ModuleHouse$Numbers", "counted32", "(II)I"⟩ (Cond.code ⟨"ModuleHouse$Numbers", "counted32", "(II)I"⟩ prog_7_method_5_code 2 (some .int) :: xk_gd) rm_Numbers_counted32 (xk_Pc D kx_cl (kx_ty ca) (kw_h ad ca) ads xk_F sz [.int x0, .int x1] u) (xk_Qc D kx_cl (kw_h ad ca) ads (xo_i (.inl r)) u') (xk_A ads sz) := by
  unfold fm_Numbers_counted32 at h
  refine xk_con (by decide) htr hok (Nat.le_of_ble_eq_true rfl) (fun p e s m below meth c ls C hne hl hP => ?_)
  have hx := C.1.1
  have hb := C.1.2.1
  have hS : va_S (xk_A ads s.heap.size) s.heap s.heap [] := va_S.rf
  have hl : lv_has ls 2 [(0, .int x0), (1, .int x1)] := hl
  refine lv_iload_n hx hb dd_Numbers_counted32_0 rfl (lv_at hl 0 rfl) ?_
  by_cases hc0 : x0 = (103 : Int32)
  · have h := xp_t hc0 h
    refine lv_lookup (off := 27) (tgt := 28) hx hb dd_Numbers_counted32_1 (by decide) (by rw [hc0]; rfl) (by decide) ?_
    refine lv_iload_n hx hb dd_Numbers_counted32_28 rfl (lv_at hl 1 rfl) ?_
    refine lv_i2l hx hb dd_Numbers_counted32_29 rfl ?_
    refine lv_ldc2 (v := 4294967295) hx hb C.1.2.2.2.1 (C.1.2.2.2.2 _ (xk_c7 (w := Jvm.Cond.constantLong "ModuleHouse$Numbers" 19 4294967295) 30 rfl rfl)) dd_Numbers_counted32_30 ?_
    refine lv_land hx hb dd_Numbers_counted32_33 ?_
    obtain ⟨a1, u2, hq, h⟩ := xp_seq h
    refine xk_goesI (xr_S (As := [.long ((x1.toInt64) &&& (4294967295 : Int64))]) (rest := []) C hP hS (ct_Numbers_leading htr hok hq) kq_Numbers_21 ⟨rfl, rfl, Nat.le_of_ble_eq_true rfl, Nat.le_of_ble_eq_true rfl⟩ ⟨Nat.le_of_ble_eq_true rfl, Nat.le_of_ble_eq_true rfl⟩ hl.1 rfl rfl (Nat.le_of_ble_eq_true rfl) dd_Numbers_counted32_34) hS (fun H locs hP hS => ?_)
    clear hq
    refine lv_bipush (v := 32) hx hb dd_Numbers_counted32_37 (by decide) ?_
    refine lv_isub hx hb dd_Numbers_counted32_39 ?_
    refine lv_goto (tgt := 60) hx hb dd_Numbers_counted32_40 (by decide) ?_
    obtain ⟨rfl, rfl⟩ := xp_r h
    exact xr_iret C hP hS dd_Numbers_counted32_60
  have h := xp_f hc0 h
  by_cases hc1 : x0 = (104 : Int32)
  · have h := xp_t hc1 h
    refine lv_lookup (off := 42) (tgt := 43) hx hb dd_Numbers_counted32_1 (by decide) (by rw [hc1]; rfl) (by decide) ?_
    refine lv_iload_n hx hb dd_Numbers_counted32_43 rfl (lv_at hl 1 rfl) ?_
    refine lv_iconst (v := 1) hx hb dd_Numbers_counted32_44 (by decide) ?_
    refine lv_isub hx hb dd_Numbers_counted32_45 ?_
    refine lv_iload_n hx hb dd_Numbers_counted32_46 rfl (lv_at hl 1 rfl) ?_
    refine lv_iconst (v := (-1)) hx hb dd_Numbers_counted32_47 (by decide) ?_
    refine lv_ixor hx hb dd_Numbers_counted32_48 ?_
    refine lv_iand hx hb dd_Numbers_counted32_49 ?_
    obtain ⟨a3, u4, hq, h⟩ := xp_seq h
    refine xk_goesI (xr_S (As := [.int ((x1 - (1 : Int32)) &&& (x1 ^^^ (-1 : Int32)))]) (rest := []) C hP hS (ct_Integer_bitCount__h htr hok hq) kq_Numbers_25 ⟨rfl, rfl, Nat.le_of_ble_eq_true rfl, Nat.le_of_ble_eq_true rfl⟩ ⟨Nat.le_of_ble_eq_true rfl, Nat.le_of_ble_eq_true rfl⟩ hl.1 rfl rfl (Nat.le_of_ble_eq_true rfl) dd_Numbers_counted32_50) hS (fun H locs hP hS => ?_)
    clear hq
    refine lv_goto (tgt := 60) hx hb dd_Numbers_counted32_53 (by decide) ?_
    obtain ⟨rfl, rfl⟩ := xp_r h
    exact xr_iret C hP hS dd_Numbers_counted32_60
  have h := xp_f hc1 h
  refine lv_lookup (off := 55) (tgt := 56) hx hb dd_Numbers_counted32_1 (by decide) ((lv_osw hc0 (by decide)).trans ((lv_osw hc1 (by decide)).trans rfl)) (by decide) ?_
  refine lv_iload_n hx hb dd_Numbers_counted32_56 rfl (lv_at hl 1 rfl) ?_
  obtain ⟨a5, u6, hq, h⟩ := xp_seq h
  refine xk_goesI (xr_S (As := [.int x1]) (rest := []) C hP hS (ct_Integer_bitCount__h htr hok hq) kq_Numbers_25 ⟨rfl, rfl, Nat.le_of_ble_eq_true rfl, Nat.le_of_ble_eq_true rfl⟩ ⟨Nat.le_of_ble_eq_true rfl, Nat.le_of_ble_eq_true rfl⟩ hl.1 rfl rfl (Nat.le_of_ble_eq_true rfl) dd_Numbers_counted32_57) hS (fun H locs hP hS => ?_)
  clear hq
  obtain ⟨rfl, rfl⟩ := xp_r h
  exact xr_iret C hP hS dd_Numbers_counted32_60
abbrev rm_Numbers_holds : Room := { frames := 2, cells := 1, slots := 6, locals := 23 }
noncomputable def fm_Numbers_holds (x0 : Int32) (x1 : Int64) (x2 : Int64) (u : xk_St) : Option (Int32 × xk_St) :=
  if x0 = (0 : Int32) then (if x1 = x2 then (some ((1 : Int32), u)) else (some ((0 : Int32), u))) else if x0 = (1 : Int32) then (if x1 = x2 then (some ((0 : Int32), u)) else (some ((1 : Int32), u))) else if x0 = (2 : Int32) then (if x2 ≤ x1 then (some ((0 : Int32), u)) else (some ((1 : Int32), u))) else if x0 = (3 : Int32) then ((xs_seq (fm_Numbers_isBelow x1 x2 u) fun a1 u2 => if a1 = 0 ∨ a1 = 1 then some (a1, u2) else none)) else if x0 = (4 : Int32) then (if x1 ≤ x2 then (some ((0 : Int32), u)) else (some ((1 : Int32), u))) else if x0 = (5 : Int32) then ((xs_seq (fm_Numbers_isBelow x2 x1 u) fun a3 u4 => if a3 = 0 ∨ a3 = 1 then some (a3, u4) else none)) else if x0 = (6 : Int32) then (if x2 < x1 then (some ((0 : Int32), u)) else (some ((1 : Int32), u))) else if x0 = (7 : Int32) then ((xs_seq (fm_Numbers_isBelow x2 x1 u) fun a5 u6 => if a5 = (0 : Int32) then (some ((1 : Int32), u6)) else (some ((0 : Int32), u6)))) else if x0 = (8 : Int32) then (if x1 < x2 then (some ((0 : Int32), u)) else (some ((1 : Int32), u))) else ((xs_seq (fm_Numbers_isBelow x1 x2 u) fun a7 u8 => if a7 = (0 : Int32) then (some ((1 : Int32), u8)) else (some ((0 : Int32), u8))))
set_option maxHeartbeats 4000000 in
set_option maxRecDepth 100000 in
theorem ct_Numbers_holds {l : Launch} {D : va_G} {ad : Nat → Nat} {ca : Nat → ClassId} {ads : List Nat} (htr : l.stackTraces = false) (hok : xk_ok (kw_h ad ca) ads) {x0 : Int32} {x1 : Int64} {x2 : Int64} {u u' : xk_St} {r : Int32} (h : fm_Numbers_holds x0 x1 x2 u = some (r, u')) :
    ∀ sz, xk_Met l ⟨"ModuleHouse$Numbers", "holds", "(IJJ)Z"⟩ (Cond.code ⟨"ModuleHouse$Numbers", "holds", "(IJJ)Z"⟩ prog_7_method_2_code 5 (some .boolean) :: xk_gd) rm_Numbers_holds (xk_Pc D kx_cl (kx_ty ca) (kw_h ad ca) ads xk_F sz [.int x0, .long x1, .long x2] u) (xk_Qc D kx_cl (kw_h ad ca) ads (xo_i (.inl r)) u') (xk_A ads sz) := by
  unfold fm_Numbers_holds at h
  refine xk_con (by decide) htr hok (Nat.le_of_ble_eq_true rfl) (fun p e s m below meth c ls C hne hl hP => ?_)
  have hx := C.1.1
  have hb := C.1.2.1
  have hS : va_S (xk_A ads s.heap.size) s.heap s.heap [] := va_S.rf
  have hl : lv_has ls 5 [(0, .int x0), (1, .long x1), (3, .long x2)] := hl
  refine lv_iload_n hx hb dd_Numbers_holds_0 rfl (lv_at hl 0 rfl) ?_
  by_cases hc0 : x0 = (0 : Int32)
  · have h := xp_t hc0 h
    refine lv_tableIn (off := 51) (tgt := 52) hx hb dd_Numbers_holds_1 (by rw [hc0]; decide) (by rw [hc0]; decide) (by rw [hc0]; rfl) (by decide) ?_
    refine lv_lload_n hx hb dd_Numbers_holds_52 rfl (lv_at hl 1 rfl) ?_
    refine lv_lload_n hx hb dd_Numbers_holds_53 rfl (lv_at hl 2 rfl) ?_
    refine xr_lc_ne (tgt := 62) hx hb dd_Numbers_holds_54 dd_Numbers_holds_55 (by decide) (fun hc => ?_) (fun hc => ?_)
    · have h := xp_f hc h
      refine lv_iconst (v := 0) hx hb dd_Numbers_holds_62 (by decide) ?_
      refine lv_goto (tgt := 181) hx hb dd_Numbers_holds_63 (by decide) ?_
      obtain ⟨rfl, rfl⟩ := xp_r h
      exact xr_zret C hP hS (by decide) dd_Numbers_holds_181
    · have h := xp_t hc h
      refine lv_iconst (v := 1) hx hb dd_Numbers_holds_58 (by decide) ?_
      refine lv_goto (tgt := 181) hx hb dd_Numbers_holds_59 (by decide) ?_
      obtain ⟨rfl, rfl⟩ := xp_r h
      exact xr_zret C hP hS (by decide) dd_Numbers_holds_181
  have h := xp_f hc0 h
  by_cases hc1 : x0 = (1 : Int32)
  · have h := xp_t hc1 h
    refine lv_tableIn (off := 65) (tgt := 66) hx hb dd_Numbers_holds_1 (by rw [hc1]; decide) (by rw [hc1]; decide) (by rw [hc1]; rfl) (by decide) ?_
    refine lv_lload_n hx hb dd_Numbers_holds_66 rfl (lv_at hl 1 rfl) ?_
    refine lv_lload_n hx hb dd_Numbers_holds_67 rfl (lv_at hl 2 rfl) ?_
    refine xr_lc_eq (tgt := 76) hx hb dd_Numbers_holds_68 dd_Numbers_holds_69 (by decide) (fun hc => ?_) (fun hc => ?_)
    · have h := xp_t hc h
      refine lv_iconst (v := 0) hx hb dd_Numbers_holds_76 (by decide) ?_
      refine lv_goto (tgt := 181) hx hb dd_Numbers_holds_77 (by decide) ?_
      obtain ⟨rfl, rfl⟩ := xp_r h
      exact xr_zret C hP hS (by decide) dd_Numbers_holds_181
    · have h := xp_f hc h
      refine lv_iconst (v := 1) hx hb dd_Numbers_holds_72 (by decide) ?_
      refine lv_goto (tgt := 181) hx hb dd_Numbers_holds_73 (by decide) ?_
      obtain ⟨rfl, rfl⟩ := xp_r h
      exact xr_zret C hP hS (by decide) dd_Numbers_holds_181
  have h := xp_f hc1 h
  by_cases hc2 : x0 = (2 : Int32)
  · have h := xp_t hc2 h
    refine lv_tableIn (off := 79) (tgt := 80) hx hb dd_Numbers_holds_1 (by rw [hc2]; decide) (by rw [hc2]; decide) (by rw [hc2]; rfl) (by decide) ?_
    refine lv_lload_n hx hb dd_Numbers_holds_80 rfl (lv_at hl 1 rfl) ?_
    refine lv_lload_n hx hb dd_Numbers_holds_81 rfl (lv_at hl 2 rfl) ?_
    refine xr_lc_ge (tgt := 90) hx hb dd_Numbers_holds_82 dd_Numbers_holds_83 (by decide) (fun hc => ?_) (fun hc => ?_)
    · have h := xp_t hc h
      refine lv_iconst (v := 0) hx hb dd_Numbers_holds_90 (by decide) ?_
      refine lv_goto (tgt := 181) hx hb dd_Numbers_holds_91 (by decide) ?_
      obtain ⟨rfl, rfl⟩ := xp_r h
      exact xr_zret C hP hS (by decide) dd_Numbers_holds_181
    · have h := xp_f hc h
      refine lv_iconst (v := 1) hx hb dd_Numbers_holds_86 (by decide) ?_
      refine lv_goto (tgt := 181) hx hb dd_Numbers_holds_87 (by decide) ?_
      obtain ⟨rfl, rfl⟩ := xp_r h
      exact xr_zret C hP hS (by decide) dd_Numbers_holds_181
  have h := xp_f hc2 h
  by_cases hc3 : x0 = (3 : Int32)
  · have h := xp_t hc3 h
    refine lv_tableIn (off := 93) (tgt := 94) hx hb dd_Numbers_holds_1 (by rw [hc3]; decide) (by rw [hc3]; decide) (by rw [hc3]; rfl) (by decide) ?_
    refine lv_lload_n hx hb dd_Numbers_holds_94 rfl (lv_at hl 1 rfl) ?_
    refine lv_lload_n hx hb dd_Numbers_holds_95 rfl (lv_at hl 2 rfl) ?_
    obtain ⟨a1, u2, hq, h⟩ := xp_seq h
    refine xk_goesI (xr_S (As := [.long x1, .long x2]) (rest := []) C hP hS (ct_Numbers_isBelow htr hok hq) kq_Numbers_9 ⟨rfl, rfl, Nat.le_of_ble_eq_true rfl, Nat.le_of_ble_eq_true rfl⟩ ⟨Nat.le_of_ble_eq_true rfl, Nat.le_of_ble_eq_true rfl⟩ hl.1 rfl rfl (Nat.le_of_ble_eq_true rfl) dd_Numbers_holds_96) hS (fun H locs hP hS => ?_)
    clear hq
    refine lv_goto (tgt := 181) hx hb dd_Numbers_holds_99 (by decide) ?_
    obtain ⟨hz, h⟩ := xp_p h
    obtain ⟨rfl, rfl⟩ := xp_r h
    exact xr_zret C hP hS hz dd_Numbers_holds_181
  have h := xp_f hc3 h
  by_cases hc4 : x0 = (4 : Int32)
  · have h := xp_t hc4 h
    refine lv_tableIn (off := 101) (tgt := 102) hx hb dd_Numbers_holds_1 (by rw [hc4]; decide) (by rw [hc4]; decide) (by rw [hc4]; rfl) (by decide) ?_
    refine lv_lload_n hx hb dd_Numbers_holds_102 rfl (lv_at hl 1 rfl) ?_
    refine lv_lload_n hx hb dd_Numbers_holds_103 rfl (lv_at hl 2 rfl) ?_
    refine xr_lc_le (tgt := 112) hx hb dd_Numbers_holds_104 dd_Numbers_holds_105 (by decide) (fun hc => ?_) (fun hc => ?_)
    · have h := xp_t hc h
      refine lv_iconst (v := 0) hx hb dd_Numbers_holds_112 (by decide) ?_
      refine lv_goto (tgt := 181) hx hb dd_Numbers_holds_113 (by decide) ?_
      obtain ⟨rfl, rfl⟩ := xp_r h
      exact xr_zret C hP hS (by decide) dd_Numbers_holds_181
    · have h := xp_f hc h
      refine lv_iconst (v := 1) hx hb dd_Numbers_holds_108 (by decide) ?_
      refine lv_goto (tgt := 181) hx hb dd_Numbers_holds_109 (by decide) ?_
      obtain ⟨rfl, rfl⟩ := xp_r h
      exact xr_zret C hP hS (by decide) dd_Numbers_holds_181
  have h := xp_f hc4 h
  by_cases hc5 : x0 = (5 : Int32)
  · have h := xp_t hc5 h
    refine lv_tableIn (off := 115) (tgt := 116) hx hb dd_Numbers_holds_1 (by rw [hc5]; decide) (by rw [hc5]; decide) (by rw [hc5]; rfl) (by decide) ?_
    refine lv_lload_n hx hb dd_Numbers_holds_116 rfl (lv_at hl 2 rfl) ?_
    refine lv_lload_n hx hb dd_Numbers_holds_117 rfl (lv_at hl 1 rfl) ?_
    obtain ⟨a3, u4, hq, h⟩ := xp_seq h
    refine xk_goesI (xr_S (As := [.long x2, .long x1]) (rest := []) C hP hS (ct_Numbers_isBelow htr hok hq) kq_Numbers_9 ⟨rfl, rfl, Nat.le_of_ble_eq_true rfl, Nat.le_of_ble_eq_true rfl⟩ ⟨Nat.le_of_ble_eq_true rfl, Nat.le_of_ble_eq_true rfl⟩ hl.1 rfl rfl (Nat.le_of_ble_eq_true rfl) dd_Numbers_holds_118) hS (fun H locs hP hS => ?_)
    clear hq
    refine lv_goto (tgt := 181) hx hb dd_Numbers_holds_121 (by decide) ?_
    obtain ⟨hz, h⟩ := xp_p h
    obtain ⟨rfl, rfl⟩ := xp_r h
    exact xr_zret C hP hS hz dd_Numbers_holds_181
  have h := xp_f hc5 h
  by_cases hc6 : x0 = (6 : Int32)
  · have h := xp_t hc6 h
    refine lv_tableIn (off := 123) (tgt := 124) hx hb dd_Numbers_holds_1 (by rw [hc6]; decide) (by rw [hc6]; decide) (by rw [hc6]; rfl) (by decide) ?_
    refine lv_lload_n hx hb dd_Numbers_holds_124 rfl (lv_at hl 1 rfl) ?_
    refine lv_lload_n hx hb dd_Numbers_holds_125 rfl (lv_at hl 2 rfl) ?_
    refine xr_lc_gt (tgt := 134) hx hb dd_Numbers_holds_126 dd_Numbers_holds_127 (by decide) (fun hc => ?_) (fun hc => ?_)
    · have h := xp_t hc h
      refine lv_iconst (v := 0) hx hb dd_Numbers_holds_134 (by decide) ?_
      refine lv_goto (tgt := 181) hx hb dd_Numbers_holds_135 (by decide) ?_
      obtain ⟨rfl, rfl⟩ := xp_r h
      exact xr_zret C hP hS (by decide) dd_Numbers_holds_181
    · have h := xp_f hc h
      refine lv_iconst (v := 1) hx hb dd_Numbers_holds_130 (by decide) ?_
      refine lv_goto (tgt := 181) hx hb dd_Numbers_holds_131 (by decide) ?_
      obtain ⟨rfl, rfl⟩ := xp_r h
      exact xr_zret C hP hS (by decide) dd_Numbers_holds_181
  have h := xp_f hc6 h
  by_cases hc7 : x0 = (7 : Int32)
  · have h := xp_t hc7 h
    refine lv_tableIn (off := 137) (tgt := 138) hx hb dd_Numbers_holds_1 (by rw [hc7]; decide) (by rw [hc7]; decide) (by rw [hc7]; rfl) (by decide) ?_
    refine lv_lload_n hx hb dd_Numbers_holds_138 rfl (lv_at hl 2 rfl) ?_
    refine lv_lload_n hx hb dd_Numbers_holds_139 rfl (lv_at hl 1 rfl) ?_
    obtain ⟨a5, u6, hq, h⟩ := xp_seq h
    refine xk_goesI (xr_S (As := [.long x2, .long x1]) (rest := []) C hP hS (ct_Numbers_isBelow htr hok hq) kq_Numbers_9 ⟨rfl, rfl, Nat.le_of_ble_eq_true rfl, Nat.le_of_ble_eq_true rfl⟩ ⟨Nat.le_of_ble_eq_true rfl, Nat.le_of_ble_eq_true rfl⟩ hl.1 rfl rfl (Nat.le_of_ble_eq_true rfl) dd_Numbers_holds_140) hS (fun H locs hP hS => ?_)
    clear hq
    refine lv_if_ne (tgt := 150) hx hb dd_Numbers_holds_143 (by decide) (fun hc => ?_) (fun hc => ?_)
    · have h := xp_f hc h
      refine lv_iconst (v := 0) hx hb dd_Numbers_holds_150 (by decide) ?_
      refine lv_goto (tgt := 181) hx hb dd_Numbers_holds_151 (by decide) ?_
      obtain ⟨rfl, rfl⟩ := xp_r h
      exact xr_zret C hP hS (by decide) dd_Numbers_holds_181
    · have h := xp_t hc h
      refine lv_iconst (v := 1) hx hb dd_Numbers_holds_146 (by decide) ?_
      refine lv_goto (tgt := 181) hx hb dd_Numbers_holds_147 (by decide) ?_
      obtain ⟨rfl, rfl⟩ := xp_r h
      exact xr_zret C hP hS (by decide) dd_Numbers_holds_181
  have h := xp_f hc7 h
  by_cases hc8 : x0 = (8 : Int32)
  · have h := xp_t hc8 h
    refine lv_tableIn (off := 153) (tgt := 154) hx hb dd_Numbers_holds_1 (by rw [hc8]; decide) (by rw [hc8]; decide) (by rw [hc8]; rfl) (by decide) ?_
    refine lv_lload_n hx hb dd_Numbers_holds_154 rfl (lv_at hl 1 rfl) ?_
    refine lv_lload_n hx hb dd_Numbers_holds_155 rfl (lv_at hl 2 rfl) ?_
    refine xr_lc_lt (tgt := 164) hx hb dd_Numbers_holds_156 dd_Numbers_holds_157 (by decide) (fun hc => ?_) (fun hc => ?_)
    · have h := xp_t hc h
      refine lv_iconst (v := 0) hx hb dd_Numbers_holds_164 (by decide) ?_
      refine lv_goto (tgt := 181) hx hb dd_Numbers_holds_165 (by decide) ?_
      obtain ⟨rfl, rfl⟩ := xp_r h
      exact xr_zret C hP hS (by decide) dd_Numbers_holds_181
    · have h := xp_f hc h
      refine lv_iconst (v := 1) hx hb dd_Numbers_holds_160 (by decide) ?_
      refine lv_goto (tgt := 181) hx hb dd_Numbers_holds_161 (by decide) ?_
      obtain ⟨rfl, rfl⟩ := xp_r h
      exact xr_zret C hP hS (by decide) dd_Numbers_holds_181
  have h := xp_f hc8 h
  have hd0 := lv_neT hc0 (a := 0) (by decide)
  have hd1 := lv_neT hc1 (a := 1) (by decide)
  have hd2 := lv_neT hc2 (a := 2) (by decide)
  have hd3 := lv_neT hc3 (a := 3) (by decide)
  have hd4 := lv_neT hc4 (a := 4) (by decide)
  have hd5 := lv_neT hc5 (a := 5) (by decide)
  have hd6 := lv_neT hc6 (a := 6) (by decide)
  have hd7 := lv_neT hc7 (a := 7) (by decide)
  have hd8 := lv_neT hc8 (a := 8) (by decide)
  refine lv_tableOut (tgt := 168) hx hb dd_Numbers_holds_1 (by omega) (by decide) ?_
  refine lv_lload_n hx hb dd_Numbers_holds_168 rfl (lv_at hl 1 rfl) ?_
  refine lv_lload_n hx hb dd_Numbers_holds_169 rfl (lv_at hl 2 rfl) ?_
  obtain ⟨a7, u8, hq, h⟩ := xp_seq h
  refine xk_goesI (xr_S (As := [.long x1, .long x2]) (rest := []) C hP hS (ct_Numbers_isBelow htr hok hq) kq_Numbers_9 ⟨rfl, rfl, Nat.le_of_ble_eq_true rfl, Nat.le_of_ble_eq_true rfl⟩ ⟨Nat.le_of_ble_eq_true rfl, Nat.le_of_ble_eq_true rfl⟩ hl.1 rfl rfl (Nat.le_of_ble_eq_true rfl) dd_Numbers_holds_170) hS (fun H locs hP hS => ?_)
  clear hq
  refine lv_if_ne (tgt := 180) hx hb dd_Numbers_holds_173 (by decide) (fun hc => ?_) (fun hc => ?_)
  · have h := xp_f hc h
    refine lv_iconst (v := 0) hx hb dd_Numbers_holds_180 (by decide) ?_
    obtain ⟨rfl, rfl⟩ := xp_r h
    exact xr_zret C hP hS (by decide) dd_Numbers_holds_181
  · have h := xp_t hc h
    refine lv_iconst (v := 1) hx hb dd_Numbers_holds_176 (by decide) ?_
    refine lv_goto (tgt := 181) hx hb dd_Numbers_holds_177 (by decide) ?_
    obtain ⟨rfl, rfl⟩ := xp_r h
    exact xr_zret C hP hS (by decide) dd_Numbers_holds_181
abbrev rm_Machine_doNumeric : Room := { frames := 5, cells := 1, slots := 6, locals := 97 }
noncomputable def jb_Machine_doNumeric_33 (fu : Nat) (s0 : Int32) (u : xk_St) : Option (Unit × xk_St) :=
  (xs_seq (fm_Values_pushTruth__h61 s0 u) fun _ u3 => some ((()), u3))
noncomputable def jb_Machine_doNumeric_12 (fu : Nat) (u : xk_St) : Option (Unit × xk_St) :=
  (xs_seq (fm_Values_pop__h61 u) fun a1 u2 => if a1 = (0 : Int64) then (jb_Machine_doNumeric_33 fu (1 : Int32) u2) else (jb_Machine_doNumeric_33 fu (0 : Int32) u2))
noncomputable def jb_Machine_doNumeric_74 (fu : Nat) (b2 : Int64) (s0 : Int32) (u : xk_St) : Option (Unit × xk_St) :=
  (xs_seq (fm_Values_pop__h61 u) fun a19 u20 => xs_seq (fm_Numbers_holds s0 a19 b2 u20) fun a21 u22 => xs_seq (fm_Values_pushTruth__h61 a21 u22) fun _ u23 => some ((()), u23))
noncomputable def fm_Machine_doNumeric (fu : Nat) (x0 : Int32) (u : xk_St) : Option (Unit × xk_St) :=
  if x0 = (69 : Int32) then (jb_Machine_doNumeric_12 fu u) else (if x0 = (80 : Int32) then (jb_Machine_doNumeric_12 fu u) else (if (90 : Int32) < x0 then (if (105 : Int32) < x0 then (if (120 : Int32) < x0 then (if (123 : Int32) < x0 then (if (138 : Int32) < x0 then ((xs_seq (fm_Machine_convert x0 u) fun _ u4 => some ((()), u4))) else ((xs_seq (fm_Machine_compute64 (x0 - (124 : Int32)) u) fun _ u5 => some ((()), u5)))) else ((xs_seq (fm_Values_pop__h61 u) fun a6 u7 => xs_seq (fm_Numbers_counted64 fu x0 a6 u7) fun a8 u9 => xs_seq (fm_Values_push__h61 (a8.toInt64) u9) fun _ u10 => some ((()), u10)))) else ((xs_seq (fm_Machine_compute32 (x0 - (106 : Int32)) u) fun _ u11 => some ((()), u11)))) else ((xs_seq (fm_Values_pop__h61 u) fun a12 u13 => xs_seq (fm_Numbers_counted32 fu x0 (a12.toInt32) u13) fun a14 u15 => xs_seq (fm_Values_push__h61 (a14.toInt64) u15) fun _ u16 => some ((()), u16)))) else ((xs_seq (fm_Values_pop__h61 u) fun a17 u18 => if (80 : Int32) ≤ x0 then (jb_Machine_doNumeric_74 fu a17 (x0 - (81 : Int32)) u18) else (jb_Machine_doNumeric_74 fu a17 (x0 - (70 : Int32)) u18)))))
set_option maxHeartbeats 4000000 in
set_option maxRecDepth 100000 in
theorem wj_Machine_doNumeric_33 {p : Program} {l : Launch} {e : Env} {s : State} {m : MethodId} {args : Array Value} {below : List Frame} {meth : Method} {c : Code} {D : va_G} {ad : Nat → Nat} {ca : Nat → ClassId} {ads : List Nat} {fu : Nat} (htr : l.stackTraces = false) (C : xk_C D kx_cl (kx_ty ca) (kw_h ad ca) ads "ModuleHouse$Machine" prog_5_method_16_code 4 none p e s m args meth c) (hne : c.exceptionTable.isEmpty = true) {u' : xk_St} {r : Unit} {s0 : Int32} {u : xk_St} {H : Heap} {locs : List Loc} {ls : Array Slot} (h : jb_Machine_doNumeric_33 fu  s0 u = some (r, u')) (hP : va_P D kx_cl (kw_h ad ca u) H) (hS : va_S (xk_A ads s.heap.size) s.heap H locs) (hl : lv_has ls 4 []) : W p l e rm_Machine_doNumeric s m args below meth c H locs 0 0 (xk_MQ below (xk_Qc D kx_cl (kw_h ad ca) ads (xo_v (.inl r)) u') args s (xk_A ads s.heap.size)) (F0 m 33 ls [.int s0, .ref (ad 61)]) := by
  have hx := C.1.1
  have hb := C.1.2.1
  have hok := C.2.2.1
  unfold jb_Machine_doNumeric_33 at h
  obtain ⟨rx, u3, hq, h⟩ := xp_seq h
  refine xk_goesV (xr_V (As := [.int s0]) (rest := []) C hP hS (ct_Values_pushTruth__h61 htr hok hq) kq_Machine_301 61 10 rfl rfl ⟨rfl, rfl, Nat.le_of_ble_eq_true rfl, Nat.le_of_ble_eq_true rfl⟩ ⟨Nat.le_of_ble_eq_true rfl, Nat.le_of_ble_eq_true rfl⟩ hl.1 rfl rfl (Nat.le_of_ble_eq_true rfl) dd_Machine_doNumeric_33) hS (fun H locs hP hS => ?_)
  clear hq
  refine lv_goto (tgt := 188) hx hb dd_Machine_doNumeric_36 (by decide) ?_
  obtain ⟨rfl, rfl⟩ := xp_r h
  exact xr_vret C hP hS dd_Machine_doNumeric_188
set_option maxHeartbeats 4000000 in
set_option maxRecDepth 100000 in
theorem wj_Machine_doNumeric_12 {p : Program} {l : Launch} {e : Env} {s : State} {m : MethodId} {args : Array Value} {below : List Frame} {meth : Method} {c : Code} {D : va_G} {ad : Nat → Nat} {ca : Nat → ClassId} {ads : List Nat} {fu : Nat} (htr : l.stackTraces = false) (C : xk_C D kx_cl (kx_ty ca) (kw_h ad ca) ads "ModuleHouse$Machine" prog_5_method_16_code 4 none p e s m args meth c) (hne : c.exceptionTable.isEmpty = true) {u' : xk_St} {r : Unit} {u : xk_St} {H : Heap} {locs : List Loc} {ls : Array Slot} (h : jb_Machine_doNumeric_12 fu   u = some (r, u')) (hP : va_P D kx_cl (kw_h ad ca u) H) (hS : va_S (xk_A ads s.heap.size) s.heap H locs) (hl : lv_has ls 4 [(0, .ref (ad 60))]) : W p l e rm_Machine_doNumeric s m args below meth c H locs 0 0 (xk_MQ below (xk_Qc D kx_cl (kw_h ad ca) ads (xo_v (.inl r)) u') args s (xk_A ads s.heap.size)) (F0 m 12 ls []) := by
  have hx := C.1.1
  have hb := C.1.2.1
  have hok := C.2.2.1
  unfold jb_Machine_doNumeric_12 at h
  refine lv_aload_n hx hb dd_Machine_doNumeric_12 rfl (lv_at hl 0 rfl) ?_
  refine gf_h_Machine_60_values C hP dd_Machine_doNumeric_13 ?_
  refine lv_aload_n hx hb dd_Machine_doNumeric_16 rfl (lv_at hl 0 rfl) ?_
  refine gf_h_Machine_60_values C hP dd_Machine_doNumeric_17 ?_
  obtain ⟨a1, u2, hq, h⟩ := xp_seq h
  refine xk_goesL (xr_V (As := []) (rest := [.ref (ad 61)]) C hP hS (ct_Values_pop__h61 htr hok hq) kq_Machine_245 61 10 rfl rfl ⟨rfl, rfl, Nat.le_of_ble_eq_true rfl, Nat.le_of_ble_eq_true rfl⟩ ⟨Nat.le_of_ble_eq_true rfl, Nat.le_of_ble_eq_true rfl⟩ hl.1 rfl rfl (Nat.le_of_ble_eq_true rfl) dd_Machine_doNumeric_20) hS (fun H locs hP hS => ?_)
  clear hq
  refine lv_lconst (v := 0) hx hb dd_Machine_doNumeric_23 (by decide) ?_
  refine xr_lc_ne (tgt := 32) hx hb dd_Machine_doNumeric_24 dd_Machine_doNumeric_25 (by decide) (fun hc => ?_) (fun hc => ?_)
  · have h := xp_f hc h
    refine lv_iconst (v := 0) hx hb dd_Machine_doNumeric_32 (by decide) ?_
    exact wj_Machine_doNumeric_33 htr C hne h hP hS (lv_sub hl [] rfl)
  · have h := xp_t hc h
    refine lv_iconst (v := 1) hx hb dd_Machine_doNumeric_28 (by decide) ?_
    refine lv_goto (tgt := 33) hx hb dd_Machine_doNumeric_29 (by decide) ?_
    exact wj_Machine_doNumeric_33 htr C hne h hP hS (lv_sub hl [] rfl)
set_option maxHeartbeats 4000000 in
set_option maxRecDepth 100000 in
theorem wj_Machine_doNumeric_74 {p : Program} {l : Launch} {e : Env} {s : State} {m : MethodId} {args : Array Value} {below : List Frame} {meth : Method} {c : Code} {D : va_G} {ad : Nat → Nat} {ca : Nat → ClassId} {ads : List Nat} {fu : Nat} (htr : l.stackTraces = false) (C : xk_C D kx_cl (kx_ty ca) (kw_h ad ca) ads "ModuleHouse$Machine" prog_5_method_16_code 4 none p e s m args meth c) (hne : c.exceptionTable.isEmpty = true) {u' : xk_St} {r : Unit} {b2 : Int64} {s0 : Int32} {u : xk_St} {H : Heap} {locs : List Loc} {ls : Array Slot} (h : jb_Machine_doNumeric_74 fu  b2 s0 u = some (r, u')) (hP : va_P D kx_cl (kw_h ad ca u) H) (hS : va_S (xk_A ads s.heap.size) s.heap H locs) (hl : lv_has ls 4 [(0, .ref (ad 60)), (2, .long b2)]) : W p l e rm_Machine_doNumeric s m args below meth c H locs 0 0 (xk_MQ below (xk_Qc D kx_cl (kw_h ad ca) ads (xo_v (.inl r)) u') args s (xk_A ads s.heap.size)) (F0 m 74 ls [.int s0, .ref (ad 61)]) := by
  have hx := C.1.1
  have hb := C.1.2.1
  have hok := C.2.2.1
  unfold jb_Machine_doNumeric_74 at h
  refine lv_aload_n hx hb dd_Machine_doNumeric_74 rfl (lv_at hl 0 rfl) ?_
  refine gf_h_Machine_60_values C hP dd_Machine_doNumeric_75 ?_
  obtain ⟨a19, u20, hq, h⟩ := xp_seq h
  refine xk_goesL (xr_V (As := []) (rest := [.int s0, .ref (ad 61)]) C hP hS (ct_Values_pop__h61 htr hok hq) kq_Machine_245 61 10 rfl rfl ⟨rfl, rfl, Nat.le_of_ble_eq_true rfl, Nat.le_of_ble_eq_true rfl⟩ ⟨Nat.le_of_ble_eq_true rfl, Nat.le_of_ble_eq_true rfl⟩ hl.1 rfl rfl (Nat.le_of_ble_eq_true rfl) dd_Machine_doNumeric_78) hS (fun H locs hP hS => ?_)
  clear hq
  refine lv_lload_n hx hb dd_Machine_doNumeric_81 rfl (lv_at hl 1 rfl) ?_
  obtain ⟨a21, u22, hq, h⟩ := xp_seq h
  refine xk_goesI (xr_S (As := [.int s0, .long a19, .long b2]) (rest := [.ref (ad 61)]) C hP hS (ct_Numbers_holds htr hok hq) kq_Machine_305 ⟨rfl, rfl, Nat.le_of_ble_eq_true rfl, Nat.le_of_ble_eq_true rfl⟩ ⟨Nat.le_of_ble_eq_true rfl, Nat.le_of_ble_eq_true rfl⟩ hl.1 rfl rfl (Nat.le_of_ble_eq_true rfl) dd_Machine_doNumeric_82) hS (fun H locs hP hS => ?_)
  clear hq
  obtain ⟨rx, u23, hq, h⟩ := xp_seq h
  refine xk_goesV (xr_V (As := [.int a21]) (rest := []) C hP hS (ct_Values_pushTruth__h61 htr hok hq) kq_Machine_301 61 10 rfl rfl ⟨rfl, rfl, Nat.le_of_ble_eq_true rfl, Nat.le_of_ble_eq_true rfl⟩ ⟨Nat.le_of_ble_eq_true rfl, Nat.le_of_ble_eq_true rfl⟩ hl.1 rfl rfl (Nat.le_of_ble_eq_true rfl) dd_Machine_doNumeric_85) hS (fun H locs hP hS => ?_)
  clear hq
  refine lv_goto (tgt := 188) hx hb dd_Machine_doNumeric_88 (by decide) ?_
  obtain ⟨rfl, rfl⟩ := xp_r h
  exact xr_vret C hP hS dd_Machine_doNumeric_188
set_option maxHeartbeats 4000000 in
set_option maxRecDepth 100000 in
theorem ct_Machine_doNumeric {l : Launch} {D : va_G} {ad : Nat → Nat} {ca : Nat → ClassId} {ads : List Nat} (htr : l.stackTraces = false) (hok : xk_ok (kw_h ad ca) ads) {fu : Nat} {x0 : Int32} {u u' : xk_St} {r : Unit} (h : fm_Machine_doNumeric fu x0 u = some (r, u')) :
    ∀ sz, xk_Met l ⟨"ModuleHouse$Machine", "doNumeric", "(I)V"⟩ (Cond.code ⟨"ModuleHouse$Machine", "doNumeric", "(I)V"⟩ prog_5_method_16_code 4 none :: xk_gd) rm_Machine_doNumeric (xk_Pc D kx_cl (kx_ty ca) (kw_h ad ca) ads xk_F sz [.ref (ad 60), .int x0] u) (xk_Qc D kx_cl (kw_h ad ca) ads (xo_v (.inl r)) u') (xk_A ads sz) := by
  unfold fm_Machine_doNumeric at h
  refine xk_con (by decide) htr hok (Nat.le_of_ble_eq_true rfl) (fun p e s m below meth c ls C hne hl hP => ?_)
  have hx := C.1.1
  have hb := C.1.2.1
  have hS : va_S (xk_A ads s.heap.size) s.heap s.heap [] := va_S.rf
  have hl : lv_has ls 4 [(0, .ref (ad 60)), (1, .int x0)] := hl
  refine lv_iload_n hx hb dd_Machine_doNumeric_0 rfl (lv_at hl 1 rfl) ?_
  refine lv_bipush (v := 69) hx hb dd_Machine_doNumeric_1 (by decide) ?_
  refine lv_icmp_eq (tgt := 12) hx hb dd_Machine_doNumeric_3 (by decide) (fun hc => ?_) (fun hc => ?_)
  · have h := xp_t hc h
    exact wj_Machine_doNumeric_12 htr C hne h hP hS (lv_sub hl [0] rfl)
  · have h := xp_f hc h
    refine lv_iload_n hx hb dd_Machine_doNumeric_6 rfl (lv_at hl 1 rfl) ?_
    refine lv_bipush (v := 80) hx hb dd_Machine_doNumeric_7 (by decide) ?_
    refine lv_icmp_ne (tgt := 39) hx hb dd_Machine_doNumeric_9 (by decide) (fun hc => ?_) (fun hc => ?_)
    · have h := xp_f hc h
      refine lv_iload_n hx hb dd_Machine_doNumeric_39 rfl (lv_at hl 1 rfl) ?_
      refine lv_bipush (v := 90) hx hb dd_Machine_doNumeric_40 (by decide) ?_
      refine lv_icmp_gt (tgt := 91) hx hb dd_Machine_doNumeric_42 (by decide) (fun hc => ?_) (fun hc => ?_)
      · have h := xp_t hc h
        refine lv_iload_n hx hb dd_Machine_doNumeric_91 rfl (lv_at hl 1 rfl) ?_
        refine lv_bipush (v := 105) hx hb dd_Machine_doNumeric_92 (by decide) ?_
        refine lv_icmp_gt (tgt := 120) hx hb dd_Machine_doNumeric_94 (by decide) (fun hc => ?_) (fun hc => ?_)
        · have h := xp_t hc h
          refine lv_iload_n hx hb dd_Machine_doNumeric_120 rfl (lv_at hl 1 rfl) ?_
          refine lv_bipush (v := 120) hx hb dd_Machine_doNumeric_121 (by decide) ?_
          refine lv_icmp_gt (tgt := 137) hx hb dd_Machine_doNumeric_123 (by decide) (fun hc => ?_) (fun hc => ?_)
          · have h := xp_t hc h
            refine lv_iload_n hx hb dd_Machine_doNumeric_137 rfl (lv_at hl 1 rfl) ?_
            refine lv_bipush (v := 123) hx hb dd_Machine_doNumeric_138 (by decide) ?_
            refine lv_icmp_gt (tgt := 165) hx hb dd_Machine_doNumeric_140 (by decide) (fun hc => ?_) (fun hc => ?_)
            · have h := xp_t hc h
              refine lv_iload_n hx hb dd_Machine_doNumeric_165 rfl (lv_at hl 1 rfl) ?_
              refine lv_sipush (v := 138) hx hb dd_Machine_doNumeric_166 (by decide) ?_
              refine lv_icmp_gt (tgt := 183) hx hb dd_Machine_doNumeric_169 (by decide) (fun hc => ?_) (fun hc => ?_)
              · have h := xp_t hc h
                refine lv_aload_n hx hb dd_Machine_doNumeric_183 rfl (lv_at hl 0 rfl) ?_
                refine lv_iload_n hx hb dd_Machine_doNumeric_184 rfl (lv_at hl 1 rfl) ?_
                obtain ⟨rx, u4, hq, h⟩ := xp_seq h
                refine xk_goesV (xr_V (As := [.int x0]) (rest := []) C hP hS (ct_Machine_convert htr hok hq) kq_Machine_322 60 4 rfl rfl ⟨rfl, rfl, Nat.le_of_ble_eq_true rfl, Nat.le_of_ble_eq_true rfl⟩ ⟨Nat.le_of_ble_eq_true rfl, Nat.le_of_ble_eq_true rfl⟩ hl.1 rfl rfl (Nat.le_of_ble_eq_true rfl) dd_Machine_doNumeric_185) hS (fun H locs hP hS => ?_)
                clear hq
                obtain ⟨rfl, rfl⟩ := xp_r h
                exact xr_vret C hP hS dd_Machine_doNumeric_188
              · have h := xp_f hc h
                refine lv_aload_n hx hb dd_Machine_doNumeric_172 rfl (lv_at hl 0 rfl) ?_
                refine lv_iload_n hx hb dd_Machine_doNumeric_173 rfl (lv_at hl 1 rfl) ?_
                refine lv_bipush (v := 124) hx hb dd_Machine_doNumeric_174 (by decide) ?_
                refine lv_isub hx hb dd_Machine_doNumeric_176 ?_
                obtain ⟨rx, u5, hq, h⟩ := xp_seq h
                refine xk_goesV (xr_V (As := [.int (x0 - (124 : Int32))]) (rest := []) C hP hS (ct_Machine_compute64 htr hok hq) kq_Machine_319 60 4 rfl rfl ⟨rfl, rfl, Nat.le_of_ble_eq_true rfl, Nat.le_of_ble_eq_true rfl⟩ ⟨Nat.le_of_ble_eq_true rfl, Nat.le_of_ble_eq_true rfl⟩ hl.1 rfl rfl (Nat.le_of_ble_eq_true rfl) dd_Machine_doNumeric_177) hS (fun H locs hP hS => ?_)
                clear hq
                refine lv_goto (tgt := 188) hx hb dd_Machine_doNumeric_180 (by decide) ?_
                obtain ⟨rfl, rfl⟩ := xp_r h
                exact xr_vret C hP hS dd_Machine_doNumeric_188
            · have h := xp_f hc h
              refine lv_aload_n hx hb dd_Machine_doNumeric_143 rfl (lv_at hl 0 rfl) ?_
              refine gf_h_Machine_60_values C hP dd_Machine_doNumeric_144 ?_
              refine lv_iload_n hx hb dd_Machine_doNumeric_147 rfl (lv_at hl 1 rfl) ?_
              refine lv_aload_n hx hb dd_Machine_doNumeric_148 rfl (lv_at hl 0 rfl) ?_
              refine gf_h_Machine_60_values C hP dd_Machine_doNumeric_149 ?_
              obtain ⟨a6, u7, hq, h⟩ := xp_seq h
              refine xk_goesL (xr_V (As := []) (rest := [.int x0, .ref (ad 61)]) C hP hS (ct_Values_pop__h61 htr hok hq) kq_Machine_245 61 10 rfl rfl ⟨rfl, rfl, Nat.le_of_ble_eq_true rfl, Nat.le_of_ble_eq_true rfl⟩ ⟨Nat.le_of_ble_eq_true rfl, Nat.le_of_ble_eq_true rfl⟩ hl.1 rfl rfl (Nat.le_of_ble_eq_true rfl) dd_Machine_doNumeric_152) hS (fun H locs hP hS => ?_)
              clear hq
              obtain ⟨a8, u9, hq, h⟩ := xp_seq h
              refine xk_goesI (xr_S (As := [.int x0, .long a6]) (rest := [.ref (ad 61)]) C hP hS (ct_Numbers_counted64 htr hok hq) kq_Machine_315 ⟨rfl, rfl, Nat.le_of_ble_eq_true rfl, Nat.le_of_ble_eq_true rfl⟩ ⟨Nat.le_of_ble_eq_true rfl, Nat.le_of_ble_eq_true rfl⟩ hl.1 rfl rfl (Nat.le_of_ble_eq_true rfl) dd_Machine_doNumeric_155) hS (fun H locs hP hS => ?_)
              clear hq
              refine lv_i2l hx hb dd_Machine_doNumeric_158 rfl ?_
              obtain ⟨rx, u10, hq, h⟩ := xp_seq h
              refine xk_goesV (xr_V (As := [.long (a8.toInt64)]) (rest := []) C hP hS (ct_Values_push__h61 htr hok hq) kq_Machine_99 61 10 rfl rfl ⟨rfl, rfl, Nat.le_of_ble_eq_true rfl, Nat.le_of_ble_eq_true rfl⟩ ⟨Nat.le_of_ble_eq_true rfl, Nat.le_of_ble_eq_true rfl⟩ hl.1 rfl rfl (Nat.le_of_ble_eq_true rfl) dd_Machine_doNumeric_159) hS (fun H locs hP hS => ?_)
              clear hq
              refine lv_goto (tgt := 188) hx hb dd_Machine_doNumeric_162 (by decide) ?_
              obtain ⟨rfl, rfl⟩ := xp_r h
              exact xr_vret C hP hS dd_Machine_doNumeric_188
          · have h := xp_f hc h
            refine lv_aload_n hx hb dd_Machine_doNumeric_126 rfl (lv_at hl 0 rfl) ?_
            refine lv_iload_n hx hb dd_Machine_doNumeric_127 rfl (lv_at hl 1 rfl) ?_
            refine lv_bipush (v := 106) hx hb dd_Machine_doNumeric_128 (by decide) ?_
            refine lv_isub hx hb dd_Machine_doNumeric_130 ?_
            obtain ⟨rx, u11, hq, h⟩ := xp_seq h
            refine xk_goesV (xr_V (As := [.int (x0 - (106 : Int32))]) (rest := []) C hP hS (ct_Machine_compute32 htr hok hq) kq_Machine_312 60 4 rfl rfl ⟨rfl, rfl, Nat.le_of_ble_eq_true rfl, Nat.le_of_ble_eq_true rfl⟩ ⟨Nat.le_of_ble_eq_true rfl, Nat.le_of_ble_eq_true rfl⟩ hl.1 rfl rfl (Nat.le_of_ble_eq_true rfl) dd_Machine_doNumeric_131) hS (fun H locs hP hS => ?_)
            clear hq
            refine lv_goto (tgt := 188) hx hb dd_Machine_doNumeric_134 (by decide) ?_
            obtain ⟨rfl, rfl⟩ := xp_r h
            exact xr_vret C hP hS dd_Machine_doNumeric_188
        · have h := xp_f hc h
          refine lv_aload_n hx hb dd_Machine_doNumeric_97 rfl (lv_at hl 0 rfl) ?_
          refine gf_h_Machine_60_values C hP dd_Machine_doNumeric_98 ?_
          refine lv_iload_n hx hb dd_Machine_doNumeric_101 rfl (lv_at hl 1 rfl) ?_
          refine lv_aload_n hx hb dd_Machine_doNumeric_102 rfl (lv_at hl 0 rfl) ?_
          refine gf_h_Machine_60_values C hP dd_Machine_doNumeric_103 ?_
          obtain ⟨a12, u13, hq, h⟩ := xp_seq h
          refine xk_goesL (xr_V (As := []) (rest := [.int x0, .ref (ad 61)]) C hP hS (ct_Values_pop__h61 htr hok hq) kq_Machine_245 61 10 rfl rfl ⟨rfl, rfl, Nat.le_of_ble_eq_true rfl, Nat.le_of_ble_eq_true rfl⟩ ⟨Nat.le_of_ble_eq_true rfl, Nat.le_of_ble_eq_true rfl⟩ hl.1 rfl rfl (Nat.le_of_ble_eq_true rfl) dd_Machine_doNumeric_106) hS (fun H locs hP hS => ?_)
          clear hq
          refine lv_l2i hx hb dd_Machine_doNumeric_109 rfl ?_
          obtain ⟨a14, u15, hq, h⟩ := xp_seq h
          refine xk_goesI (xr_S (As := [.int x0, .int (a12.toInt32)]) (rest := [.ref (ad 61)]) C hP hS (ct_Numbers_counted32 htr hok hq) kq_Machine_308 ⟨rfl, rfl, Nat.le_of_ble_eq_true rfl, Nat.le_of_ble_eq_true rfl⟩ ⟨Nat.le_of_ble_eq_true rfl, Nat.le_of_ble_eq_true rfl⟩ hl.1 rfl rfl (Nat.le_of_ble_eq_true rfl) dd_Machine_doNumeric_110) hS (fun H locs hP hS => ?_)
          clear hq
          refine lv_i2l hx hb dd_Machine_doNumeric_113 rfl ?_
          obtain ⟨rx, u16, hq, h⟩ := xp_seq h
          refine xk_goesV (xr_V (As := [.long (a14.toInt64)]) (rest := []) C hP hS (ct_Values_push__h61 htr hok hq) kq_Machine_99 61 10 rfl rfl ⟨rfl, rfl, Nat.le_of_ble_eq_true rfl, Nat.le_of_ble_eq_true rfl⟩ ⟨Nat.le_of_ble_eq_true rfl, Nat.le_of_ble_eq_true rfl⟩ hl.1 rfl rfl (Nat.le_of_ble_eq_true rfl) dd_Machine_doNumeric_114) hS (fun H locs hP hS => ?_)
          clear hq
          refine lv_goto (tgt := 188) hx hb dd_Machine_doNumeric_117 (by decide) ?_
          obtain ⟨rfl, rfl⟩ := xp_r h
          exact xr_vret C hP hS dd_Machine_doNumeric_188
      · have h := xp_f hc h
        refine lv_aload_n hx hb dd_Machine_doNumeric_45 rfl (lv_at hl 0 rfl) ?_
        refine gf_h_Machine_60_values C hP dd_Machine_doNumeric_46 ?_
        obtain ⟨a17, u18, hq, h⟩ := xp_seq h
        refine xk_goesL (xr_V (As := []) (rest := []) C hP hS (ct_Values_pop__h61 htr hok hq) kq_Machine_245 61 10 rfl rfl ⟨rfl, rfl, Nat.le_of_ble_eq_true rfl, Nat.le_of_ble_eq_true rfl⟩ ⟨Nat.le_of_ble_eq_true rfl, Nat.le_of_ble_eq_true rfl⟩ hl.1 rfl rfl (Nat.le_of_ble_eq_true rfl) dd_Machine_doNumeric_49) hS (fun H locs hP hS => ?_)
        clear hq
        refine lv_lstore_n (lv' := [(2, .long a17), (0, .ref (ad 60)), (1, .int x0)]) hx hb dd_Machine_doNumeric_52 rfl hl (by decide) rfl (fun ls hl => ?_)
        refine lv_aload_n hx hb dd_Machine_doNumeric_53 rfl (lv_at hl 1 rfl) ?_
        refine gf_h_Machine_60_values C hP dd_Machine_doNumeric_54 ?_
        refine lv_iload_n hx hb dd_Machine_doNumeric_57 rfl (lv_at hl 2 rfl) ?_
        refine lv_bipush (v := 80) hx hb dd_Machine_doNumeric_58 (by decide) ?_
        refine lv_icmp_ge (tgt := 70) hx hb dd_Machine_doNumeric_60 (by decide) (fun hc => ?_) (fun hc => ?_)
        · have h := xp_t hc h
          refine lv_iload_n hx hb dd_Machine_doNumeric_70 rfl (lv_at hl 2 rfl) ?_
          refine lv_bipush (v := 81) hx hb dd_Machine_doNumeric_71 (by decide) ?_
          refine lv_isub hx hb dd_Machine_doNumeric_73 ?_
          exact wj_Machine_doNumeric_74 htr C hne h hP hS (lv_sub hl [1, 0] rfl)
        · have h := xp_f hc h
          refine lv_iload_n hx hb dd_Machine_doNumeric_63 rfl (lv_at hl 2 rfl) ?_
          refine lv_bipush (v := 70) hx hb dd_Machine_doNumeric_64 (by decide) ?_
          refine lv_isub hx hb dd_Machine_doNumeric_66 ?_
          refine lv_goto (tgt := 74) hx hb dd_Machine_doNumeric_67 (by decide) ?_
          exact wj_Machine_doNumeric_74 htr C hne h hP hS (lv_sub hl [1, 0] rfl)
    · have h := xp_t hc h
      exact wj_Machine_doNumeric_12 htr C hne h hP hS (lv_sub hl [0] rfl)
abbrev rm_Memory_width : Room := { frames := 1, cells := 1, slots := 6, locals := 0 }
noncomputable def fm_Memory_width (x0 : Int32) (u : xk_St) : Option (Int32 × xk_St) :=
  (if (x0 - (40 : Int32)) < 0 ∨ 23 ≤ (x0 - (40 : Int32)).toNatClampNeg then none else some ((xt_W (x0 - (40 : Int32)).toNatClampNeg), u))
set_option maxHeartbeats 4000000 in
set_option maxRecDepth 100000 in
theorem ct_Memory_width {l : Launch} {D : va_G} {ad : Nat → Nat} {ca : Nat → ClassId} {ads : List Nat} (htr : l.stackTraces = false) (hok : xk_ok (kw_h ad ca) ads) {x0 : Int32} {u u' : xk_St} {r : Int32} (h : fm_Memory_width x0 u = some (r, u')) :
    ∀ sz, xk_Met l ⟨"ModuleHouse$Memory", "width", "(I)I"⟩ (Cond.code ⟨"ModuleHouse$Memory", "width", "(I)I"⟩ prog_6_method_2_code 1 (some .int) :: xk_gd) rm_Memory_width (xk_Pc D kx_cl (kx_ty ca) (kw_h ad ca) ads xk_F sz [.int x0] u) (xk_Qc D kx_cl (kw_h ad ca) ads (xo_i (.inl r)) u') (xk_A ads sz) := by
  unfold fm_Memory_width at h
  refine xk_con (by decide) htr hok (Nat.le_of_ble_eq_true rfl) (fun p e s m below meth c ls C hne hl hP => ?_)
  have hx := C.1.1
  have hb := C.1.2.1
  have hS : va_S (xk_A ads s.heap.size) s.heap s.heap [] := va_S.rf
  have hl : lv_has ls 1 [(0, .int x0)] := hl
  obtain ⟨t0, hZ0, hT0⟩ := C.2.2.2.1.2.2.2.2.2.1
  obtain ⟨t1, hZ1, hT1⟩ := C.2.2.2.1.2.2.2.2.2.2.1
  obtain ⟨t2, hZ2, hT2⟩ := C.2.2.2.1.2.2.2.2.2.2.2
  refine va_gets hx hb hZ2 hS C.1.2.2.2.1 (C.1.2.2.2.2 _ (xk_c6 (w := Cond.fieldLink "ModuleHouse$Memory" 16 "ModuleHouse$Memory" "WIDTH" "[I") 60 rfl rfl)) (fun _ h => h) dd_Memory_width_0 ?_
  refine lv_iload_n hx hb dd_Memory_width_3 rfl (lv_at hl 0 rfl) ?_
  refine lv_bipush (v := 40) hx hb dd_Memory_width_4 (by decide) ?_
  refine lv_isub hx hb dd_Memory_width_6 ?_
  obtain ⟨hi, h⟩ := xp_g h
  refine va_ti hx hb hT2 hS hi rfl dd_Memory_width_7 ?_
  obtain ⟨rfl, rfl⟩ := xp_r h
  exact xr_iret C hP hS dd_Memory_width_8
abbrev rm_Memory_holds : Room := { frames := 1, cells := 1, slots := 6, locals := 0 }
noncomputable def fm_Memory_holds (x0 : Int64) (x1 : Int64) (u : xk_St) : Option (Int32 × xk_St) :=
  if ((4096 : Int64) * ((u.1 33).toInt64)) < (x0 + x1) then (some ((0 : Int32), u)) else (some ((1 : Int32), u))
set_option maxHeartbeats 4000000 in
set_option maxRecDepth 100000 in
theorem ct_Memory_holds {l : Launch} {D : va_G} {ad : Nat → Nat} {ca : Nat → ClassId} {ads : List Nat} (htr : l.stackTraces = false) (hok : xk_ok (kw_h ad ca) ads) {x0 : Int64} {x1 : Int64} {u u' : xk_St} {r : Int32} (h : fm_Memory_holds x0 x1 u = some (r, u')) :
    ∀ sz, xk_Met l ⟨"ModuleHouse$Memory", "holds", "(JJ)Z"⟩ (Cond.code ⟨"ModuleHouse$Memory", "holds", "(JJ)Z"⟩ prog_6_method_6_code 5 (some .boolean) :: xk_gd) rm_Memory_holds (xk_Pc D kx_cl (kx_ty ca) (kw_h ad ca) ads xk_F sz [.ref (ad 77), .long x0, .long x1] u) (xk_Qc D kx_cl (kw_h ad ca) ads (xo_i (.inl r)) u') (xk_A ads sz) := by
  unfold fm_Memory_holds at h
  refine xk_con (by decide) htr hok (Nat.le_of_ble_eq_true rfl) (fun p e s m below meth c ls C hne hl hP => ?_)
  have hx := C.1.1
  have hb := C.1.2.1
  have hS : va_S (xk_A ads s.heap.size) s.heap s.heap [] := va_S.rf
  have hl : lv_has ls 5 [(0, .ref (ad 77)), (1, .long x0), (3, .long x1)] := hl
  refine lv_lload_n hx hb dd_Memory_holds_0 rfl (lv_at hl 1 rfl) ?_
  refine lv_lload_n hx hb dd_Memory_holds_1 rfl (lv_at hl 2 rfl) ?_
  refine lv_ladd hx hb dd_Memory_holds_2 ?_
  refine lv_ldc2 (v := 4096) hx hb C.1.2.2.2.1 (C.1.2.2.2.2 _ (xk_c6 (w := Jvm.Cond.constantLong "ModuleHouse$Memory" 39 4096) 157 rfl rfl)) dd_Memory_holds_3 ?_
  refine lv_aload_n hx hb dd_Memory_holds_6 rfl (lv_at hl 0 rfl) ?_
  refine gf_h_Memory_77_pages C hP dd_Memory_holds_7 ?_
  refine lv_i2l hx hb dd_Memory_holds_10 rfl ?_
  refine lv_lmul hx hb dd_Memory_holds_11 ?_
  refine xr_lc_gt (tgt := 20) hx hb dd_Memory_holds_12 dd_Memory_holds_13 (by decide) (fun hc => ?_) (fun hc => ?_)
  · have h := xp_t hc h
    refine lv_iconst (v := 0) hx hb dd_Memory_holds_20 (by decide) ?_
    obtain ⟨rfl, rfl⟩ := xp_r h
    exact xr_zret C hP hS (by decide) dd_Memory_holds_21
  · have h := xp_f hc h
    refine lv_iconst (v := 1) hx hb dd_Memory_holds_16 (by decide) ?_
    refine lv_goto (tgt := 21) hx hb dd_Memory_holds_17 (by decide) ?_
    obtain ⟨rfl, rfl⟩ := xp_r h
    exact xr_zret C hP hS (by decide) dd_Memory_holds_21
abbrev rm_Memory_taken : Room := { frames := 1, cells := 1, slots := 6, locals := 0 }
noncomputable def jb_Memory_taken_5 (fu : Nat) : Nat → Int32 → Int32 → Int64 → Int32 → xk_St → Option (Int64 × xk_St)
  | 0 => fun _ _ _ _ _ => none
  | n + 1 => fun b1 b2 b3 b5 u =>
    xs_let (jb_Memory_taken_5 fu  n) fun k5 =>
    if b2 ≤ b5 then (some (b3, u)) else ((if (b1 + b5) < 0 ∨ 65536 ≤ (b1 + b5).toNatClampNeg then none else xs_let (b3 ||| ((((u.2.2.1 46 (b1 + b5).toNatClampNeg).toInt64) &&& (255 : Int64)) <<< (((8 : Int32) * b5).toInt64 &&& 63))) fun a1 => xs_let (b5 + (1 : Int32)) fun a2 => k5 b1 b2 a1 a2 u))
noncomputable def fm_Memory_taken (fu : Nat) (x0 : Int32) (x1 : Int32) (u : xk_St) : Option (Int64 × xk_St) :=
  jb_Memory_taken_5 fu fu x0 x1 (0 : Int64) (0 : Int32) u
set_option maxHeartbeats 4000000 in
set_option maxRecDepth 100000 in
theorem wj_Memory_taken_5 {p : Program} {l : Launch} {e : Env} {s : State} {m : MethodId} {args : Array Value} {below : List Frame} {meth : Method} {c : Code} {D : va_G} {ad : Nat → Nat} {ca : Nat → ClassId} {ads : List Nat} {fu : Nat} (htr : l.stackTraces = false) (C : xk_C D kx_cl (kx_ty ca) (kw_h ad ca) ads "ModuleHouse$Memory" prog_6_method_7_code 6 (some .long) p e s m args meth c) (hne : c.exceptionTable.isEmpty = true) {u' : xk_St} {r : Int64} : ∀ {n : Nat} {b1 : Int32} {b2 : Int32} {b3 : Int64} {b5 : Int32} {u : xk_St} {H : Heap} {locs : List Loc} {ls : Array Slot} (h : jb_Memory_taken_5 fu  n b1 b2 b3 b5 u = some (r, u')) (hP : va_P D kx_cl (kw_h ad ca u) H) (hS : va_S (xk_A ads s.heap.size) s.heap H locs) (hl : lv_has ls 6 [(0, .ref (ad 77)), (1, .int b1), (2, .int b2), (3, .long b3), (5, .int b5)]), W p l e rm_Memory_taken s m args below meth c H locs 0 0 (xk_MQ below (xk_Qc D kx_cl (kw_h ad ca) ads (xo_l (.inl r)) u') args s (xk_A ads s.heap.size)) (F0 m 5 ls []) := by
  intro n
  have hx := C.1.1
  have hb := C.1.2.1
  have hok := C.2.2.1
  induction n with
  | zero =>
    intro _ _ _ _ u H locs ls h
    have h : none = some (r, u') := h
    cases h
  | succ n ih =>
    intro b1 b2 b3 b5 u H locs ls h hP hS hl
    unfold jb_Memory_taken_5 at h
    obtain ⟨k5, ek5, h⟩ := xp_let h
    have hk5 : ∀ (c0 : Int32) (c1 : Int32) (c2 : Int64) (c3 : Int32) (u : xk_St) (H : Heap) (locs : List Loc) (ls : Array Slot), k5 c0 c1 c2 c3 u = some (r, u') → va_P D kx_cl (kw_h ad ca u) H → va_S (xk_A ads s.heap.size) s.heap H locs → lv_has ls 6 [(0, .ref (ad 77)), (1, .int c0), (2, .int c1), (3, .long c2), (5, .int c3)] → W p l e rm_Memory_taken s m args below meth c H locs 0 0 (xk_MQ below (xk_Qc D kx_cl (kw_h ad ca) ads (xo_l (.inl r)) u') args s (xk_A ads s.heap.size)) (F0 m 5 ls []) := by
      intro c0 c1 c2 c3 u H locs ls h hP hS hl
      subst ek5
      exact ih h hP hS hl
    clear ih ek5
    refine lv_iload hx hb dd_Memory_taken_5 (lv_at hl 4 rfl) ?_
    refine lv_iload_n hx hb dd_Memory_taken_7 rfl (lv_at hl 2 rfl) ?_
    refine lv_icmp_ge (tgt := 40) hx hb dd_Memory_taken_8 (by decide) (fun hc => ?_) (fun hc => ?_)
    · have h := xp_t hc h
      refine lv_lload_n hx hb dd_Memory_taken_40 rfl (lv_at hl 3 rfl) ?_
      obtain ⟨rfl, rfl⟩ := xp_r h
      exact xr_lret C hP hS dd_Memory_taken_41
    · have h := xp_f hc h
      refine lv_lload_n hx hb dd_Memory_taken_11 rfl (lv_at hl 3 rfl) ?_
      refine lv_aload_n hx hb dd_Memory_taken_12 rfl (lv_at hl 0 rfl) ?_
      refine gf_h_Memory_77_bytes C hP dd_Memory_taken_13 ?_
      refine lv_iload_n hx hb dd_Memory_taken_16 rfl (lv_at hl 1 rfl) ?_
      refine lv_iload hx hb dd_Memory_taken_17 (lv_at hl 4 rfl) ?_
      refine lv_iadd hx hb dd_Memory_taken_19 ?_
      obtain ⟨hi, h⟩ := xp_g h
      refine al_h_78 C hP hi dd_Memory_taken_20 ?_
      refine lv_i2l hx hb dd_Memory_taken_21 rfl ?_
      refine lv_ldc2 (v := 255) hx hb C.1.2.2.2.1 (C.1.2.2.2.2 _ (xk_c7 (w := Jvm.Cond.constantLong "ModuleHouse$Memory" 41 255) 7 rfl rfl)) dd_Memory_taken_22 ?_
      refine lv_land hx hb dd_Memory_taken_25 ?_
      refine lv_bipush (v := 8) hx hb dd_Memory_taken_26 (by decide) ?_
      refine lv_iload hx hb dd_Memory_taken_28 (lv_at hl 4 rfl) ?_
      refine lv_imul hx hb dd_Memory_taken_30 ?_
      refine lv_lshl hx hb dd_Memory_taken_31 rfl ?_
      refine lv_lor hx hb dd_Memory_taken_32 ?_
      obtain ⟨a1, ea1, h⟩ := xp_let h
      refine xr_naml ea1 ?_
      refine lv_lstore_n (lv' := [(3, .long a1), (0, .ref (ad 77)), (1, .int b1), (2, .int b2), (5, .int b5)]) hx hb dd_Memory_taken_33 rfl hl (by decide) rfl (fun ls hl => ?_)
      obtain ⟨a2, ea2, h⟩ := xp_let h
      refine lv_iinc (v := a2) (lv' := [(5, .int a2), (3, .long a1), (0, .ref (ad 77)), (1, .int b1), (2, .int b2)]) hx hb dd_Memory_taken_34 hl (k := 4) rfl (by rw [ea2]; first | rfl | decide) (by decide) rfl (fun ls hl => ?_)
      refine lv_goto (tgt := 5) hx hb dd_Memory_taken_37 (by decide) ?_
      exact hk5 b1 b2 a1 a2 u _ _ _ h hP hS (lv_sub hl [2, 3, 4, 1, 0] rfl)
set_option maxHeartbeats 4000000 in
set_option maxRecDepth 100000 in
theorem ct_Memory_taken {l : Launch} {D : va_G} {ad : Nat → Nat} {ca : Nat → ClassId} {ads : List Nat} (htr : l.stackTraces = false) (hok : xk_ok (kw_h ad ca) ads) {fu : Nat} {x0 : Int32} {x1 : Int32} {u u' : xk_St} {r : Int64} (h : fm_Memory_taken fu x0 x1 u = some (r, u')) :
    ∀ sz, xk_Met l ⟨"ModuleHouse$Memory", "taken", "(II)J"⟩ (Cond.code ⟨"ModuleHouse$Memory", "taken", "(II)J"⟩ prog_6_method_7_code 6 (some .long) :: xk_gd) rm_Memory_taken (xk_Pc D kx_cl (kx_ty ca) (kw_h ad ca) ads xk_F sz [.ref (ad 77), .int x0, .int x1] u) (xk_Qc D kx_cl (kw_h ad ca) ads (xo_l (.inl r)) u') (xk_A ads sz) := by
  unfold fm_Memory_taken at h
  refine xk_con (by decide) htr hok (Nat.le_of_ble_eq_true rfl) (fun p e s m below meth c ls C hne hl hP => ?_)
  have hx := C.1.1
  have hb := C.1.2.1
  have hS : va_S (xk_A ads s.heap.size) s.heap s.heap [] := va_S.rf
  have hl : lv_has ls 6 [(0, .ref (ad 77)), (1, .int x0), (2, .int x1)] := hl
  refine lv_lconst (v := 0) hx hb dd_Memory_taken_0 (by decide) ?_
  refine lv_lstore_n (lv' := [(3, .long (0 : Int64)), (0, .ref (ad 77)), (1, .int x0), (2, .int x1)]) hx hb dd_Memory_taken_1 rfl hl (by decide) rfl (fun ls hl => ?_)
  refine lv_iconst (v := 0) hx hb dd_Memory_taken_2 (by decide) ?_
  refine lv_istore (lv' := [(5, .int (0 : Int32)), (3, .long (0 : Int64)), (0, .ref (ad 77)), (1, .int x0), (2, .int x1)]) hx hb dd_Memory_taken_3 hl (by decide) rfl (fun ls hl => ?_)
  exact wj_Memory_taken_5 htr C hne h hP hS (lv_sub hl [2, 3, 4, 1, 0] rfl)
