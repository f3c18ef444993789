abbrev rm_Heap_find__h67_64 : Room := { frames := 1, cells := 1, slots := 6, locals := 0 }
noncomputable def jb_Heap_find__h67_64_88 (fu : Nat) (k3 : Int32 → Int32 → xk_St → Option (Unit × xk_St)) (b3 : Int32) (b4 : Int32) (u : xk_St) : Option (Unit × xk_St) :=
  (xs_let (b4 + (1 : Int32)) fun a1 => k3 b3 a1 u)
noncomputable def jb_Heap_find__h67_64_3 (fu : Nat) : Nat → Int32 → Int32 → xk_St → Option (Unit × xk_St)
  | 0 => fun _ _ _ => none
  | n + 1 => fun b3 b4 u =>
    xs_let (jb_Heap_find__h67_64_3 fu  n) fun k3 =>
    if b3 ≤ b4 then (some ((()), u)) else ((if b4 < 0 ∨ 64 ≤ b4.toNatClampNeg then none else if (u.2.2.1 38 b4.toNatClampNeg) = (0 : Int32) then (jb_Heap_find__h67_64_88 fu k3 b3 b4 u) else ((if b4 < 0 ∨ 64 ≤ b4.toNatClampNeg then none else if (u.2.2.2 11 b4.toNatClampNeg) ≤ (0 : Int64) then (jb_Heap_find__h67_64_88 fu k3 b3 b4 u) else ((if b4 < 0 ∨ 64 ≤ b4.toNatClampNeg then none else if ((u.2.2.2 11 b4.toNatClampNeg).toInt32) < 0 ∨ 2001 ≤ ((u.2.2.2 11 b4.toNatClampNeg).toInt32).toNatClampNeg then none else if (u.2.2.1 43 ((u.2.2.2 11 b4.toNatClampNeg).toInt32).toNatClampNeg) = (0 : Int32) then ((if b4 < 0 ∨ 64 ≤ b4.toNatClampNeg then none else if ((u.2.2.2 11 b4.toNatClampNeg).toInt32) < 0 ∨ 2001 ≤ ((u.2.2.2 11 b4.toNatClampNeg).toInt32).toNatClampNeg then none else xs_let (xs_A u 43 ((u.2.2.2 11 b4.toNatClampNeg).toInt32).toNatClampNeg (vp_nar .boolean (1 : Int32))) fun u2 => if b4 < 0 ∨ 64 ≤ b4.toNatClampNeg then none else if (u2.1 31) < 0 ∨ 2000 ≤ (u2.1 31).toNatClampNeg then none else xs_let (xs_A u2 45 (u2.1 31).toNatClampNeg ((u2.2.2.2 11 b4.toNatClampNeg).toInt32)) fun u3 => xs_let (xs_I u3 31 ((u3.1 31) + (1 : Int32))) fun u4 => jb_Heap_find__h67_64_88 fu k3 b3 b4 u4)) else (jb_Heap_find__h67_64_88 fu k3 b3 b4 u)))))))
noncomputable def fm_Heap_find__h67_64 (fu : Nat) (x1 : Int32) (x2 : Int32) (u : xk_St) : Option (Unit × xk_St) :=
  jb_Heap_find__h67_64_3 fu fu x2 x1 u
set_option maxHeartbeats 4000000 in
set_option maxRecDepth 100000 in
theorem wj_Heap_find__h67_64_88 {p : Program} {l : Launch} {e : Env} {s : State} {m : MethodId} {args : Array Value} {below : List Frame} {meth : Method} {c : Code} {D : va_G} {ad : Nat → Nat} {ca : Nat → ClassId} {ads : List Nat} {fu : Nat} (htr : l.stackTraces = false) (C : xk_C D kx_cl (kx_ty ca) (kw_h ad ca) ads "ModuleHouse$Heap" prog_4_method_6_code 5 none p e s m args meth c) (hne : c.exceptionTable.isEmpty = true) {u' : xk_St} {r : Unit} {k3 : Int32 → Int32 → xk_St → Option (Unit × xk_St)} (hk3 : ∀ (c0 : Int32) (c1 : Int32) (u : xk_St) (H : Heap) (locs : List Loc) (ls : Array Slot), k3 c0 c1 u = some (r, u') → va_P D kx_cl (kw_h ad ca u) H → va_S (xk_A ads s.heap.size) s.heap H locs → lv_has ls 5 [(0, .ref (ad 67)), (1, .ref (ad 64)), (3, .int c0), (4, .int c1)] → W p l e rm_Heap_find__h67_64 s m args below meth c H locs 0 0 (xk_MQ below (xk_Qc D kx_cl (kw_h ad ca) ads (xo_v (.inl r)) u') args s (xk_A ads s.heap.size)) (F0 m 3 ls [])) {b3 : Int32} {b4 : Int32} {u : xk_St} {H : Heap} {locs : List Loc} {ls : Array Slot} (h : jb_Heap_find__h67_64_88 fu k3 b3 b4 u = some (r, u')) (hP : va_P D kx_cl (kw_h ad ca u) H) (hS : va_S (xk_A ads s.heap.size) s.heap H locs) (hl : lv_has ls 5 [(0, .ref (ad 67)), (1, .ref (ad 64)), (3, .int b3), (4, .int b4)]) : W p l e rm_Heap_find__h67_64 s m args below meth c H locs 0 0 (xk_MQ below (xk_Qc D kx_cl (kw_h ad ca) ads (xo_v (.inl r)) u') args s (xk_A ads s.heap.size)) (F0 m 88 ls []) := by
  have hx := C.1.1
  have hb := C.1.2.1
  have hok := C.2.2.1
  unfold jb_Heap_find__h67_64_88 at h
  obtain ⟨a1, ea1, h⟩ := xp_let h
  refine lv_iinc (v := a1) (lv' := [(4, .int a1), (0, .ref (ad 67)), (1, .ref (ad 64)), (3, .int b3)]) hx hb dd_Heap_find_88 hl (k := 3) rfl (by rw [ea1]; first | rfl | decide) (by decide) rfl (fun ls hl => ?_)
  refine lv_goto (tgt := 3) hx hb dd_Heap_find_91 (by decide) ?_
  exact hk3 b3 a1 u _ _ _ h hP hS (lv_sub hl [1, 2, 3, 0] rfl)
set_option maxHeartbeats 4000000 in
set_option maxRecDepth 100000 in
theorem wj_Heap_find__h67_64_3 {p : Program} {l : Launch} {e : Env} {s : State} {m : MethodId} {args : Array Value} {below : List Frame} {meth : Method} {c : Code} {D : va_G} {ad : Nat → Nat} {ca : Nat → ClassId} {ads : List Nat} {fu : Nat} (htr : l.stackTraces = false) (C : xk_C D kx_cl (kx_ty ca) (kw_h ad ca) ads "ModuleHouse$Heap" prog_4_method_6_code 5 none p e s m args meth c) (hne : c.exceptionTable.isEmpty = true) {u' : xk_St} {r : Unit} : ∀ {n : Nat} {b3 : Int32} {b4 : Int32} {u : xk_St} {H : Heap} {locs : List Loc} {ls : Array Slot} (h : jb_Heap_find__h67_64_3 fu  n b3 b4 u = some (r, u')) (hP : va_P D kx_cl (kw_h ad ca u) H) (hS : va_S (xk_A ads s.heap.size) s.heap H locs) (hl : lv_has ls 5 [(0, .ref (ad 67)), (1, .ref (ad 64)), (3, .int b3), (4, .int b4)]), W p l e rm_Heap_find__h67_64 s m args below meth c H locs 0 0 (xk_MQ below (xk_Qc D kx_cl (kw_h ad ca) ads (xo_v (.inl r)) u') args s (xk_A ads s.heap.size)) (F0 m 3 ls []) := by
  intro n
  have hx := C.1.1
  have hb := C.1.2.1
  have hok := C.2.2.1
  induction n with
  | zero =>
    intro _ _ u H locs ls h
    have h : none = some (r, u') := h
    cases h
  | succ n ih =>
    intro b3 b4 u H locs ls h hP hS hl
    unfold jb_Heap_find__h67_64_3 at h
    obtain ⟨k3, ek3, h⟩ := xp_let h
    have hk3 : ∀ (c0 : Int32) (c1 : Int32) (u : xk_St) (H : Heap) (locs : List Loc) (ls : Array Slot), k3 c0 c1 u = some (r, u') → va_P D kx_cl (kw_h ad ca u) H → va_S (xk_A ads s.heap.size) s.heap H locs → lv_has ls 5 [(0, .ref (ad 67)), (1, .ref (ad 64)), (3, .int c0), (4, .int c1)] → W p l e rm_Heap_find__h67_64 s m args below meth c H locs 0 0 (xk_MQ below (xk_Qc D kx_cl (kw_h ad ca) ads (xo_v (.inl r)) u') args s (xk_A ads s.heap.size)) (F0 m 3 ls []) := by
      intro c0 c1 u H locs ls h hP hS hl
      subst ek3
      exact ih h hP hS hl
    clear ih ek3
    refine lv_iload hx hb dd_Heap_find_3 (lv_at hl 3 rfl) ?_
    refine lv_iload_n hx hb dd_Heap_find_5 rfl (lv_at hl 2 rfl) ?_
    refine lv_icmp_ge (tgt := 94) hx hb dd_Heap_find_6 (by decide) (fun hc => ?_) (fun hc => ?_)
    · have h := xp_t hc h
      obtain ⟨rfl, rfl⟩ := xp_r h
      exact xr_vret C hP hS dd_Heap_find_94
    · have h := xp_f hc h
      refine lv_aload_n hx hb dd_Heap_find_9 rfl (lv_at hl 1 rfl) ?_
      refine gf_h_Heap_64_refers C hP dd_Heap_find_10 ?_
      refine lv_iload hx hb dd_Heap_find_13 (lv_at hl 3 rfl) ?_
      obtain ⟨hi, h⟩ := xp_g h
      refine al_h_66 C hP hi dd_Heap_find_15 ?_
      refine lv_if_eq (tgt := 88) hx hb dd_Heap_find_16 (by decide) (fun hc => ?_) (fun hc => ?_)
      · have h := xp_t hc h
        exact wj_Heap_find__h67_64_88 htr C hne hk3 h hP hS (lv_sub hl [0, 1, 2, 3] rfl)
      · have h := xp_f hc h
        refine lv_aload_n hx hb dd_Heap_find_19 rfl (lv_at hl 1 rfl) ?_
        refine gf_h_Heap_64_value C hP dd_Heap_find_20 ?_
        refine lv_iload hx hb dd_Heap_find_23 (lv_at hl 3 rfl) ?_
        obtain ⟨hi, h⟩ := xp_g h
        refine al_h_65 C hP hi dd_Heap_find_25 ?_
        refine lv_lconst (v := 0) hx hb dd_Heap_find_26 (by decide) ?_
        refine xr_lc_le (tgt := 88) hx hb dd_Heap_find_27 dd_Heap_find_28 (by decide) (fun hc => ?_) (fun hc => ?_)
        · have h := xp_t hc h
          exact wj_Heap_find__h67_64_88 htr C hne hk3 h hP hS (lv_sub hl [0, 1, 2, 3] rfl)
        · have h := xp_f hc h
          refine lv_aload_n hx hb dd_Heap_find_31 rfl (lv_at hl 0 rfl) ?_
          refine gf_h_Heap_67_lives C hP dd_Heap_find_32 ?_
          refine lv_aload_n hx hb dd_Heap_find_35 rfl (lv_at hl 1 rfl) ?_
          refine gf_h_Heap_64_value C hP dd_Heap_find_36 ?_
          refine lv_iload hx hb dd_Heap_find_39 (lv_at hl 3 rfl) ?_
          obtain ⟨hi, h⟩ := xp_g h
          refine al_h_65 C hP hi dd_Heap_find_41 ?_
          refine lv_l2i hx hb dd_Heap_find_42 rfl ?_
          obtain ⟨hi, h⟩ := xp_g h
          refine al_h_74 C hP hi dd_Heap_find_43 ?_
          refine lv_if_ne (tgt := 88) hx hb dd_Heap_find_44 (by decide) (fun hc => ?_) (fun hc => ?_)
          · have h := xp_f hc h
            exact wj_Heap_find__h67_64_88 htr C hne hk3 h hP hS (lv_sub hl [0, 1, 2, 3] rfl)
          · have h := xp_t hc h
            refine lv_aload_n hx hb dd_Heap_find_47 rfl (lv_at hl 0 rfl) ?_
            refine gf_h_Heap_67_lives C hP dd_Heap_find_48 ?_
            refine lv_aload_n hx hb dd_Heap_find_51 rfl (lv_at hl 1 rfl) ?_
            refine gf_h_Heap_64_value C hP dd_Heap_find_52 ?_
            refine lv_iload hx hb dd_Heap_find_55 (lv_at hl 3 rfl) ?_
            obtain ⟨hi, h⟩ := xp_g h
            refine al_h_65 C hP hi dd_Heap_find_57 ?_
            refine lv_l2i hx hb dd_Heap_find_58 rfl ?_
            refine lv_iconst (v := 1) hx hb dd_Heap_find_59 (by decide) ?_
            obtain ⟨hi, h⟩ := xp_g h
            refine as_h_74 C hP hS hi dd_Heap_find_60 (fun H locs hP hS => ?_)
            obtain ⟨u2, eu2, h⟩ := xp_let h
            rw [← eu2] at hP
            refine lv_aload_n hx hb dd_Heap_find_61 rfl (lv_at hl 0 rfl) ?_
            refine gf_h_Heap_67_found C hP dd_Heap_find_62 ?_
            refine lv_aload_n hx hb dd_Heap_find_65 rfl (lv_at hl 0 rfl) ?_
            refine gf_h_Heap_67_foundCount C hP dd_Heap_find_66 ?_
            refine lv_aload_n hx hb dd_Heap_find_69 rfl (lv_at hl 1 rfl) ?_
            refine gf_h_Heap_64_value C hP dd_Heap_find_70 ?_
            refine lv_iload hx hb dd_Heap_find_73 (lv_at hl 3 rfl) ?_
            obtain ⟨hi, h⟩ := xp_g h
            refine al_h_65 C hP hi dd_Heap_find_75 ?_
            refine lv_l2i hx hb dd_Heap_find_76 rfl ?_
            obtain ⟨hi, h⟩ := xp_g h
            refine as_h_76 C hP hS hi dd_Heap_find_77 (fun H locs hP hS => ?_)
            obtain ⟨u3, eu3, h⟩ := xp_let h
            rw [← eu3] at hP
            refine lv_aload_n hx hb dd_Heap_find_78 rfl (lv_at hl 0 rfl) ?_
            refine lv_dup hx hb dd_Heap_find_79 rfl ?_
            refine gf_h_Heap_67_foundCount C hP dd_Heap_find_80 ?_
            refine lv_iconst (v := 1) hx hb dd_Heap_find_83 (by decide) ?_
            refine lv_iadd hx hb dd_Heap_find_84 ?_
            refine pf_h_Heap_67_foundCount C hP hS dd_Heap_find_85 (fun H locs hP hS => ?_)
            obtain ⟨u4, eu4, h⟩ := xp_let h
            rw [← eu4] at hP
            exact wj_Heap_find__h67_64_88 htr C hne hk3 h hP hS (lv_sub hl [0, 1, 2, 3] rfl)
set_option maxHeartbeats 4000000 in
set_option maxRecDepth 100000 in
theorem ct_Heap_find__h67_64 {l : Launch} {D : va_G} {ad : Nat → Nat} {ca : Nat → ClassId} {ads : List Nat} (htr : l.stackTraces = false) (hok : xk_ok (kw_h ad ca) ads) {fu : Nat} {x1 : Int32} {x2 : Int32} {u u' : xk_St} {r : Unit} (h : fm_Heap_find__h67_64 fu x1 x2 u = some (r, u')) :
    ∀ sz, xk_Met l ⟨"ModuleHouse$Heap", "find", "(LModuleHouse$Values;II)V"⟩ (Cond.code ⟨"ModuleHouse$Heap", "find", "(LModuleHouse$Values;II)V"⟩ prog_4_method_6_code 5 none :: xk_gd) rm_Heap_find__h67_64 (xk_Pc D kx_cl (kx_ty ca) (kw_h ad ca) ads xk_F sz [.ref (ad 67), .ref (ad 64), .int x1, .int x2] u) (xk_Qc D kx_cl (kw_h ad ca) ads (xo_v (.inl r)) u') (xk_A ads sz) := by
  unfold fm_Heap_find__h67_64 at h
  refine xk_con (by decide) htr hok (Nat.le_of_ble_eq_true rfl) (fun p e s m below meth c ls C hne hl hP => ?_)
  have hx := C.1.1
  have hb := C.1.2.1
  have hS : va_S (xk_A ads s.heap.size) s.heap s.heap [] := va_S.rf
  have hl : lv_has ls 5 [(0, .ref (ad 67)), (1, .ref (ad 64)), (2, .int x1), (3, .int x2)] := hl
  refine lv_iload_n hx hb dd_Heap_find_0 rfl (lv_at hl 2 rfl) ?_
  refine lv_istore (lv' := [(4, .int x1), (0, .ref (ad 67)), (1, .ref (ad 64)), (2, .int x1), (3, .int x2)]) hx hb dd_Heap_find_1 hl (by decide) rfl (fun ls hl => ?_)
  exact wj_Heap_find__h67_64_3 htr C hne h hP hS (lv_sub hl [1, 2, 4, 0] rfl)
abbrev rm_Heap_moveTogether : Room := { frames := 1, cells := 1, slots := 6, locals := 60 }
noncomputable def jb_Heap_moveTogether_129 (fu : Nat) (k4 : Int32 → Int32 → xk_St → Option (Unit × xk_St)) (b1 : Int32) (b2 : Int32) (b4 : Int32) (u : xk_St) : Option (Unit × xk_St) :=
  (xs_let (b2 + b4) fun a6 => k4 b1 a6 u)
noncomputable def jb_Heap_moveTogether_4 (fu : Nat) : Nat → Int32 → Int32 → xk_St → Option (Unit × xk_St)
  | 0 => fun _ _ _ => none
  | n + 1 => fun b1 b2 u =>
    xs_let (jb_Heap_moveTogether_4 fu  n) fun k4 =>
    if (u.1 32) ≤ b2 then ((xs_let (xs_I u 32 b1) fun u1 => some ((()), u1))) else ((if b2 < 0 ∨ 2000 ≤ b2.toNatClampNeg then none else xs_let ((u.2.2.2 12 b2.toNatClampNeg).toInt32) fun a2 => if a2 < 0 ∨ 2001 ≤ a2.toNatClampNeg then none else xs_let ((1 : Int32) + (u.2.2.1 41 a2.toNatClampNeg)) fun a3 => if a2 < 0 ∨ 2001 ≤ a2.toNatClampNeg then none else if (u.2.2.1 43 a2.toNatClampNeg) = (0 : Int32) then ((if (u.1 30) < 0 ∨ 2000 ≤ (u.1 30).toNatClampNeg then none else xs_let (xs_A u 44 (u.1 30).toNatClampNeg a2) fun u4 => xs_let (xs_I u4 30 ((u4.1 30) + (1 : Int32))) fun u5 => jb_Heap_moveTogether_129 fu k4 b1 b2 a3 u5)) else ((if a2 < 0 ∨ 2001 ≤ a2.toNatClampNeg then none else xs_let (xs_A u 43 a2.toNatClampNeg (vp_nar .boolean (0 : Int32))) fun u7 => if a2 < 0 ∨ 2001 ≤ a2.toNatClampNeg then none else xs_let (xs_A u7 42 a2.toNatClampNeg b1) fun u8 => if b2 < 0 ∨ b1 < 0 ∨ a3 < 0 ∨ 2000 < b2.toNatClampNeg + a3.toNatClampNeg ∨ 2000 < b1.toNatClampNeg + a3.toNatClampNeg then none else xs_let (xs_BB u8 12 (va_cpy (u8.2.2.2 12) (u8.2.2.2 12) b2.toNatClampNeg b1.toNatClampNeg a3.toNatClampNeg)) fun u9 => if b2 < 0 ∨ b1 < 0 ∨ a3 < 0 ∨ 2000 < b2.toNatClampNeg + a3.toNatClampNeg ∨ 2000 < b1.toNatClampNeg + a3.toNatClampNeg then none else xs_if (∀ i, i < a3.toNatClampNeg → fits .boolean (.int (u9.2.2.1 39 (b2.toNatClampNeg + i))) = true) <| xs_let (xs_AA u9 39 (va_cpy (u9.2.2.1 39) (u9.2.2.1 39) b2.toNatClampNeg b1.toNatClampNeg a3.toNatClampNeg)) fun u10 => xs_let (b1 + a3) fun a11 => jb_Heap_moveTogether_129 fu k4 a11 b2 a3 u10))))
noncomputable def fm_Heap_moveTogether (fu : Nat) (u : xk_St) : Option (Unit × xk_St) :=
  jb_Heap_moveTogether_4 fu fu (0 : Int32) (0 : Int32) u
set_option maxHeartbeats 4000000 in
set_option maxRecDepth 100000 in
theorem wj_Heap_moveTogether_129 {p : Program} {l : Launch} {e : Env} {s : State} {m : MethodId} {args : Array Value} {below : List Frame} {meth : Method} {c : Code} {D : va_G} {ad : Nat → Nat} {ca : Nat → ClassId} {ads : List Nat} {fu : Nat} (htr : l.stackTraces = false) (C : xk_C D kx_cl (kx_ty ca) (kw_h ad ca) ads "ModuleHouse$Heap" prog_4_method_7_code 5 none p e s m args meth c) (hne : c.exceptionTable.isEmpty = true) {u' : xk_St} {r : Unit} {k4 : Int32 → Int32 → xk_St → Option (Unit × xk_St)} (hk4 : ∀ (c0 : Int32) (c1 : Int32) (u : xk_St) (H : Heap) (locs : List Loc) (ls : Array Slot), k4 c0 c1 u = some (r, u') → va_P D kx_cl (kw_h ad ca u) H → va_S (xk_A ads s.heap.size) s.heap H locs → lv_has ls 5 [(0, .ref (ad 67)), (1, .int c0), (2, .int c1)] → W p l e rm_Heap_moveTogether s m args below meth c H locs 0 0 (xk_MQ below (xk_Qc D kx_cl (kw_h ad ca) ads (xo_v (.inl r)) u') args s (xk_A ads s.heap.size)) (F0 m 4 ls [])) {b1 : Int32} {b2 : Int32} {b4 : Int32} {u : xk_St} {H : Heap} {locs : List Loc} {ls : Array Slot} (h : jb_Heap_moveTogether_129 fu k4 b1 b2 b4 u = some (r, u')) (hP : va_P D kx_cl (kw_h ad ca u) H) (hS : va_S (xk_A ads s.heap.size) s.heap H locs) (hl : lv_has ls 5 [(0, .ref (ad 67)), (1, .int b1), (2, .int b2), (4, .int b4)]) : W p l e rm_Heap_moveTogether s m args below meth c H locs 0 0 (xk_MQ below (xk_Qc D kx_cl (kw_h ad ca) ads (xo_v (.inl r)) u') args s (xk_A ads s.heap.size)) (F0 m 129 ls []) := by
  have hx := C.1.1
  have hb := C.1.2.1
  have hok := C.2.2.1
  unfold jb_Heap_moveTogether_129 at h
  refine lv_iload_n hx hb dd_Heap_moveTogether_129 rfl (lv_at hl 2 rfl) ?_
  refine lv_iload hx hb dd_Heap_moveTogether_130 (lv_at hl 3 rfl) ?_
  refine lv_iadd hx hb dd_Heap_moveTogether_132 ?_
  obtain ⟨a6, ea6, h⟩ := xp_let h
  refine xr_nami ea6 ?_
  refine lv_istore_n (lv' := [(2, .int a6), (0, .ref (ad 67)), (1, .int b1), (4, .int b4)]) hx hb dd_Heap_moveTogether_133 rfl hl (by decide) rfl (fun ls hl => ?_)
  refine lv_goto (tgt := 4) hx hb dd_Heap_moveTogether_134 (by decide) ?_
  exact hk4 b1 a6 u _ _ _ h hP hS (lv_sub hl [1, 2, 0] rfl)
set_option maxHeartbeats 4000000 in
set_option maxRecDepth 100000 in
theorem wj_Heap_moveTogether_4 {p : Program} {l : Launch} {e : Env} {s : State} {m : MethodId} {args : Array Value} {below : List Frame} {meth : Method} {c : Code} {D : va_G} {ad : Nat → Nat} {ca : Nat → ClassId} {ads : List Nat} {fu : Nat} (htr : l.stackTraces = false) (C : xk_C D kx_cl (kx_ty ca) (kw_h ad ca) ads "ModuleHouse$Heap" prog_4_method_7_code 5 none p e s m args meth c) (hne : c.exceptionTable.isEmpty = true) {u' : xk_St} {r : Unit} : ∀ {n : Nat} {b1 : Int32} {b2 : Int32} {u : xk_St} {H : Heap} {locs : List Loc} {ls : Array Slot} (h : jb_Heap_moveTogether_4 fu  n b1 b2 u = some (r, u')) (hP : va_P D kx_cl (kw_h ad ca u) H) (hS : va_S (xk_A ads s.heap.size) s.heap H locs) (hl : lv_has ls 5 [(0, .ref (ad 67)), (1, .int b1), (2, .int b2)]), W p l e rm_Heap_moveTogether s m args below meth c H locs 0 0 (xk_MQ below (xk_Qc D kx_cl (kw_h ad ca) ads (xo_v (.inl r)) u') args s (xk_A ads s.heap.size)) (F0 m 4 ls []) := by
  intro n
  have hx := C.1.1
  have hb := C.1.2.1
  have hok := C.2.2.1
  induction n with
  | zero =>
    intro _ _ u H locs ls h
    have h : none = some (r, u') := h
    cases h
  | succ n ih =>
    intro b1 b2 u H locs ls h hP hS hl
    unfold jb_Heap_moveTogether_4 at h
    obtain ⟨k4, ek4, h⟩ := xp_let h
    have hk4 : ∀ (c0 : Int32) (c1 : Int32) (u : xk_St) (H : Heap) (locs : List Loc) (ls : Array Slot), k4 c0 c1 u = some (r, u') → va_P D kx_cl (kw_h ad ca u) H → va_S (xk_A ads s.heap.size) s.heap H locs → lv_has ls 5 [(0, .ref (ad 67)), (1, .int c0), (2, .int c1)] → W p l e rm_Heap_moveTogether s m args below meth c H locs 0 0 (xk_MQ below (xk_Qc D kx_cl (kw_h ad ca) ads (xo_v (.inl r)) u') args s (xk_A ads s.heap.size)) (F0 m 4 ls []) := by
      intro c0 c1 u H locs ls h hP hS hl
      subst ek4
      exact ih h hP hS hl
    clear ih ek4
    refine lv_iload_n hx hb dd_Heap_moveTogether_4 rfl (lv_at hl 2 rfl) ?_
    refine lv_aload_n hx hb dd_Heap_moveTogether_5 rfl (lv_at hl 0 rfl) ?_
    refine gf_h_Heap_67_cells C hP dd_Heap_moveTogether_6 ?_
    refine gf_h_Heap_68_top C hP dd_Heap_moveTogether_9 ?_
    refine lv_icmp_ge (tgt := 137) hx hb dd_Heap_moveTogether_12 (by decide) (fun hc => ?_) (fun hc => ?_)
    · have h := xp_t hc h
      refine lv_aload_n hx hb dd_Heap_moveTogether_137 rfl (lv_at hl 0 rfl) ?_
      refine gf_h_Heap_67_cells C hP dd_Heap_moveTogether_138 ?_
      refine lv_iload_n hx hb dd_Heap_moveTogether_141 rfl (lv_at hl 1 rfl) ?_
      refine pf_h_Heap_68_top C hP hS dd_Heap_moveTogether_142 (fun H locs hP hS => ?_)
      obtain ⟨u1, eu1, h⟩ := xp_let h
      rw [← eu1] at hP
      obtain ⟨rfl, rfl⟩ := xp_r h
      exact xr_vret C hP hS dd_Heap_moveTogether_145
    · have h := xp_f hc h
      refine lv_aload_n hx hb dd_Heap_moveTogether_15 rfl (lv_at hl 0 rfl) ?_
      refine gf_h_Heap_67_cells C hP dd_Heap_moveTogether_16 ?_
      refine gf_h_Heap_68_value C hP dd_Heap_moveTogether_19 ?_
      refine lv_iload_n hx hb dd_Heap_moveTogether_22 rfl (lv_at hl 2 rfl) ?_
      obtain ⟨hi, h⟩ := xp_g h
      refine al_h_69 C hP hi dd_Heap_moveTogether_23 ?_
      refine lv_l2i hx hb dd_Heap_moveTogether_24 rfl ?_
      obtain ⟨a2, ea2, h⟩ := xp_let h
      refine xr_nami ea2 ?_
      refine lv_istore_n (lv' := [(3, .int a2), (0, .ref (ad 67)), (1, .int b1), (2, .int b2)]) hx hb dd_Heap_moveTogether_25 rfl hl (by decide) rfl (fun ls hl => ?_)
      refine lv_iconst (v := 1) hx hb dd_Heap_moveTogether_26 (by decide) ?_
      refine lv_aload_n hx hb dd_Heap_moveTogether_27 rfl (lv_at hl 1 rfl) ?_
      refine gf_h_Heap_67_size C hP dd_Heap_moveTogether_28 ?_
      refine lv_iload_n hx hb dd_Heap_moveTogether_31 rfl (lv_at hl 0 rfl) ?_
      obtain ⟨hi, h⟩ := xp_g h
      refine al_h_72 C hP hi dd_Heap_moveTogether_32 ?_
      refine lv_iadd hx hb dd_Heap_moveTogether_33 ?_
      obtain ⟨a3, ea3, h⟩ := xp_let h
      refine xr_nami ea3 ?_
      refine lv_istore (lv' := [(4, .int a3), (3, .int a2), (0, .ref (ad 67)), (1, .int b1), (2, .int b2)]) hx hb dd_Heap_moveTogether_34 hl (by decide) rfl (fun ls hl => ?_)
      refine lv_aload_n hx hb dd_Heap_moveTogether_36 rfl (lv_at hl 2 rfl) ?_
      refine gf_h_Heap_67_lives C hP dd_Heap_moveTogether_37 ?_
      refine lv_iload_n hx hb dd_Heap_moveTogether_40 rfl (lv_at hl 1 rfl) ?_
      obtain ⟨hi, h⟩ := xp_g h
      refine al_h_74 C hP hi dd_Heap_moveTogether_41 ?_
      refine lv_if_eq (tgt := 109) hx hb dd_Heap_moveTogether_42 (by decide) (fun hc => ?_) (fun hc => ?_)
      · have h := xp_t hc h
        refine lv_aload_n hx hb dd_Heap_moveTogether_109 rfl (lv_at hl 2 rfl) ?_
        refine gf_h_Heap_67_free C hP dd_Heap_moveTogether_110 ?_
        refine lv_aload_n hx hb dd_Heap_moveTogether_113 rfl (lv_at hl 2 rfl) ?_
        refine gf_h_Heap_67_freeCount C hP dd_Heap_moveTogether_114 ?_
        refine lv_iload_n hx hb dd_Heap_moveTogether_117 rfl (lv_at hl 1 rfl) ?_
        obtain ⟨hi, h⟩ := xp_g h
        refine as_h_75 C hP hS hi dd_Heap_moveTogether_118 (fun H locs hP hS => ?_)
        obtain ⟨u4, eu4, h⟩ := xp_let h
        rw [← eu4] at hP
        refine lv_aload_n hx hb dd_Heap_moveTogether_119 rfl (lv_at hl 2 rfl) ?_
        refine lv_dup hx hb dd_Heap_moveTogether_120 rfl ?_
        refine gf_h_Heap_67_freeCount C hP dd_Heap_moveTogether_121 ?_
        refine lv_iconst (v := 1) hx hb dd_Heap_moveTogether_124 (by decide) ?_
        refine lv_iadd hx hb dd_Heap_moveTogether_125 ?_
        refine pf_h_Heap_67_freeCount C hP hS dd_Heap_moveTogether_126 (fun H locs hP hS => ?_)
        obtain ⟨u5, eu5, h⟩ := xp_let h
        rw [← eu5] at hP
        exact wj_Heap_moveTogether_129 htr C hne hk4 h hP hS (lv_sub hl [2, 3, 4, 0] rfl)
      · have h := xp_f hc h
        refine lv_aload_n hx hb dd_Heap_moveTogether_45 rfl (lv_at hl 2 rfl) ?_
        refine gf_h_Heap_67_lives C hP dd_Heap_moveTogether_46 ?_
        refine lv_iload_n hx hb dd_Heap_moveTogether_49 rfl (lv_at hl 1 rfl) ?_
        refine lv_iconst (v := 0) hx hb dd_Heap_moveTogether_50 (by decide) ?_
        obtain ⟨hi, h⟩ := xp_g h
        refine as_h_74 C hP hS hi dd_Heap_moveTogether_51 (fun H locs hP hS => ?_)
        obtain ⟨u7, eu7, h⟩ := xp_let h
        rw [← eu7] at hP
        refine lv_aload_n hx hb dd_Heap_moveTogether_52 rfl (lv_at hl 2 rfl) ?_
        refine gf_h_Heap_67_start C hP dd_Heap_moveTogether_53 ?_
        refine lv_iload_n hx hb dd_Heap_moveTogether_56 rfl (lv_at hl 1 rfl) ?_
        refine lv_iload_n hx hb dd_Heap_moveTogether_57 rfl (lv_at hl 3 rfl) ?_
        obtain ⟨hi, h⟩ := xp_g h
        refine as_h_73 C hP hS hi dd_Heap_moveTogether_58 (fun H locs hP hS => ?_)
        obtain ⟨u8, eu8, h⟩ := xp_let h
        rw [← eu8] at hP
        refine lv_aload_n hx hb dd_Heap_moveTogether_59 rfl (lv_at hl 2 rfl) ?_
        refine gf_h_Heap_67_cells C hP dd_Heap_moveTogether_60 ?_
        refine gf_h_Heap_68_value C hP dd_Heap_moveTogether_63 ?_
        refine lv_iload_n hx hb dd_Heap_moveTogether_66 rfl (lv_at hl 4 rfl) ?_
        refine lv_aload_n hx hb dd_Heap_moveTogether_67 rfl (lv_at hl 2 rfl) ?_
        refine gf_h_Heap_67_cells C hP dd_Heap_moveTogether_68 ?_
        refine gf_h_Heap_68_value C hP dd_Heap_moveTogether_71 ?_
        refine lv_iload_n hx hb dd_Heap_moveTogether_74 rfl (lv_at hl 3 rfl) ?_
        refine lv_iload hx hb dd_Heap_moveTogether_75 (lv_at hl 0 rfl) ?_
        obtain ⟨hi, h⟩ := xp_g h
        refine va_copyl hx hb (C.1.2.2.1.trans hl.1.symm) C.1.2.2.2.1 (C.1.2.2.2.2 _ (xk_c7 (w := Cond.methodLink "ModuleHouse$Heap" 81 arraycopyName) 109 rfl rfl)) (C.1.2.2.2.2 _ (xk_c3 (w := Cond.native arraycopyName) 168 rfl rfl)) (C.1.2.2.2.2 _ (xk_c3 (w := Cond.static arraycopyName) 167 rfl rfl)) (C.1.2.2.2.2 _ (xk_c1 (w := Cond.initialized "java/lang/System") 25 rfl rfl)) C.2.1 hP (C.2.2.1.D (fun q h => Or.inl h) _) hS 69 69 2 2 rfl rfl rfl rfl rfl (fun z => hi (Or.inl z)) (fun z => hi (Or.inr (Or.inl z))) (fun z => hi (Or.inr (Or.inr (Or.inl z)))) (Nat.not_lt.mp fun z => hi (Or.inr (Or.inr (Or.inr (Or.inl z))))) (Nat.not_lt.mp fun z => hi (Or.inr (Or.inr (Or.inr (Or.inr z))))) (fun _ _ => rfl) (Nat.le_of_ble_eq_true rfl) (Nat.le_of_ble_eq_true rfl) dd_Heap_moveTogether_77 (fun H locs hP _ hS => ?_)
        obtain ⟨u9, eu9, h⟩ := xp_let h
        replace hP : va_P D kx_cl (kw_h ad ca u9) H := by rw [eu9]; exact hP
        refine lv_aload_n hx hb dd_Heap_moveTogether_80 rfl (lv_at hl 2 rfl) ?_
        refine gf_h_Heap_67_cells C hP dd_Heap_moveTogether_81 ?_
        refine gf_h_Heap_68_refers C hP dd_Heap_moveTogether_84 ?_
        refine lv_iload_n hx hb dd_Heap_moveTogether_87 rfl (lv_at hl 4 rfl) ?_
        refine lv_aload_n hx hb dd_Heap_moveTogether_88 rfl (lv_at hl 2 rfl) ?_
        refine gf_h_Heap_67_cells C hP dd_Heap_moveTogether_89 ?_
        refine gf_h_Heap_68_refers C hP dd_Heap_moveTogether_92 ?_
        refine lv_iload_n hx hb dd_Heap_moveTogether_95 rfl (lv_at hl 3 rfl) ?_
        refine lv_iload hx hb dd_Heap_moveTogether_96 (lv_at hl 0 rfl) ?_
        obtain ⟨hi, h⟩ := xp_g h
        obtain ⟨hf, h⟩ := xp_if h
        refine va_copyi hx hb (C.1.2.2.1.trans hl.1.symm) C.1.2.2.2.1 (C.1.2.2.2.2 _ (xk_c7 (w := Cond.methodLink "ModuleHouse$Heap" 81 arraycopyName) 109 rfl rfl)) (C.1.2.2.2.2 _ (xk_c3 (w := Cond.native arraycopyName) 168 rfl rfl)) (C.1.2.2.2.2 _ (xk_c3 (w := Cond.static arraycopyName) 167 rfl rfl)) (C.1.2.2.2.2 _ (xk_c1 (w := Cond.initialized "java/lang/System") 25 rfl rfl)) C.2.1 hP (C.2.2.1.D (fun q h => Or.inl h) _) hS 70 70 3 3 rfl rfl rfl rfl rfl (fun z => hi (Or.inl z)) (fun z => hi (Or.inr (Or.inl z))) (fun z => hi (Or.inr (Or.inr (Or.inl z)))) (Nat.not_lt.mp fun z => hi (Or.inr (Or.inr (Or.inr (Or.inl z))))) (Nat.not_lt.mp fun z => hi (Or.inr (Or.inr (Or.inr (Or.inr z))))) hf (Nat.le_of_ble_eq_true rfl) (Nat.le_of_ble_eq_true rfl) dd_Heap_moveTogether_98 (fun H locs hP _ hS => ?_)
        obtain ⟨u10, eu10, h⟩ := xp_let h
        replace hP : va_P D kx_cl (kw_h ad ca u10) H := by rw [eu10]; exact hP
        refine lv_iload_n hx hb dd_Heap_moveTogether_101 rfl (lv_at hl 3 rfl) ?_
        refine lv_iload hx hb dd_Heap_moveTogether_102 (lv_at hl 0 rfl) ?_
        refine lv_iadd hx hb dd_Heap_moveTogether_104 ?_
        obtain ⟨a11, ea11, h⟩ := xp_let h
        refine xr_nami ea11 ?_
        refine lv_istore_n (lv' := [(1, .int a11), (4, .int a3), (3, .int a2), (0, .ref (ad 67)), (2, .int b2)]) hx hb dd_Heap_moveTogether_105 rfl hl (by decide) rfl (fun ls hl => ?_)
        refine lv_goto (tgt := 129) hx hb dd_Heap_moveTogether_106 (by decide) ?_
        exact wj_Heap_moveTogether_129 htr C hne hk4 h hP hS (lv_sub hl [3, 0, 4, 1] rfl)
set_option maxHeartbeats 4000000 in
set_option maxRecDepth 100000 in
theorem ct_Heap_moveTogether {l : Launch} {D : va_G} {ad : Nat → Nat} {ca : Nat → ClassId} {ads : List Nat} (htr : l.stackTraces = false) (hok : xk_ok (kw_h ad ca) ads) {fu : Nat} {u u' : xk_St} {r : Unit} (h : fm_Heap_moveTogether fu u = some (r, u')) :
    ∀ sz, xk_Met l ⟨"ModuleHouse$Heap", "moveTogether", "()V"⟩ (Cond.code ⟨"ModuleHouse$Heap", "moveTogether", "()V"⟩ prog_4_method_7_code 5 none :: xk_gd) rm_Heap_moveTogether (xk_Pc D kx_cl (kx_ty ca) (kw_h ad ca) ads xk_F sz [.ref (ad 67)] u) (xk_Qc D kx_cl (kw_h ad ca) ads (xo_v (.inl r)) u') (xk_A ads sz) := by
  unfold fm_Heap_moveTogether at h
  refine xk_con (by decide) htr hok (Nat.le_of_ble_eq_true rfl) (fun p e s m below meth c ls C hne hl hP => ?_)
  have hx := C.1.1
  have hb := C.1.2.1
  have hS : va_S (xk_A ads s.heap.size) s.heap s.heap [] := va_S.rf
  have hl : lv_has ls 5 [(0, .ref (ad 67))] := hl
  refine lv_iconst (v := 0) hx hb dd_Heap_moveTogether_0 (by decide) ?_
  refine lv_istore_n (lv' := [(1, .int (0 : Int32)), (0, .ref (ad 67))]) hx hb dd_Heap_moveTogether_1 rfl hl (by decide) rfl (fun ls hl => ?_)
  refine lv_iconst (v := 0) hx hb dd_Heap_moveTogether_2 (by decide) ?_
  refine lv_istore_n (lv' := [(2, .int (0 : Int32)), (1, .int (0 : Int32)), (0, .ref (ad 67))]) hx hb dd_Heap_moveTogether_3 rfl hl (by decide) rfl (fun ls hl => ?_)
  exact wj_Heap_moveTogether_4 htr C hne h hP hS (lv_sub hl [2, 1, 0] rfl)
abbrev rm_Heap_cellOf : Room := { frames := 1, cells := 1, slots := 6, locals := 0 }
noncomputable def fm_Heap_cellOf (x0 : Int32) (x1 : Int32) (u : xk_St) : Option (Int32 × xk_St) :=
  (if x0 < 0 ∨ 2001 ≤ x0.toNatClampNeg then none else some ((((u.2.2.1 42 x0.toNatClampNeg) + (1 : Int32)) + x1), u))
set_option maxHeartbeats 4000000 in
set_option maxRecDepth 100000 in
theorem ct_Heap_cellOf {l : Launch} {D : va_G} {ad : Nat → Nat} {ca : Nat → ClassId} {ads : List Nat} (htr : l.stackTraces = false) (hok : xk_ok (kw_h ad ca) ads) {x0 : Int32} {x1 : Int32} {u u' : xk_St} {r : Int32} (h : fm_Heap_cellOf x0 x1 u = some (r, u')) :
    ∀ sz, xk_Met l ⟨"ModuleHouse$Heap", "cellOf", "(II)I"⟩ (Cond.code ⟨"ModuleHouse$Heap", "cellOf", "(II)I"⟩ prog_4_method_3_code 3 (some .int) :: xk_gd) rm_Heap_cellOf (xk_Pc D kx_cl (kx_ty ca) (kw_h ad ca) ads xk_F sz [.ref (ad 67), .int x0, .int x1] u) (xk_Qc D kx_cl (kw_h ad ca) ads (xo_i (.inl r)) u') (xk_A ads sz) := by
  unfold fm_Heap_cellOf at h
  refine xk_con (by decide) htr hok (Nat.le_of_ble_eq_true rfl) (fun p e s m below meth c ls C hne hl hP => ?_)
  have hx := C.1.1
  have hb := C.1.2.1
  have hS : va_S (xk_A ads s.heap.size) s.heap s.heap [] := va_S.rf
  have hl : lv_has ls 3 [(0, .ref (ad 67)), (1, .int x0), (2, .int x1)] := hl
  refine lv_aload_n hx hb dd_Heap_cellOf_0 rfl (lv_at hl 0 rfl) ?_
  refine gf_h_Heap_67_start C hP dd_Heap_cellOf_1 ?_
  refine lv_iload_n hx hb dd_Heap_cellOf_4 rfl (lv_at hl 1 rfl) ?_
  obtain ⟨hi, h⟩ := xp_g h
  refine al_h_73 C hP hi dd_Heap_cellOf_5 ?_
  refine lv_iconst (v := 1) hx hb dd_Heap_cellOf_6 (by decide) ?_
  refine lv_iadd hx hb dd_Heap_cellOf_7 ?_
  refine lv_iload_n hx hb dd_Heap_cellOf_8 rfl (lv_at hl 2 rfl) ?_
  refine lv_iadd hx hb dd_Heap_cellOf_9 ?_
  obtain ⟨rfl, rfl⟩ := xp_r h
  exact xr_iret C hP hS dd_Heap_cellOf_10
abbrev rm_Heap_find__h67_68 : Room := { frames := 1, cells := 1, slots := 6, locals := 0 }
noncomputable def jb_Heap_find__h67_68_88 (fu : Nat) (k3 : Int32 → Int32 → xk_St → Option (Unit × xk_St)) (b3 : Int32) (b4 : Int32) (u : xk_St) : Option (Unit × xk_St) :=
  (xs_let (b4 + (1 : Int32)) fun a1 => k3 b3 a1 u)
noncomputable def jb_Heap_find__h67_68_3 (fu : Nat) : Nat → Int32 → Int32 → xk_St → Option (Unit × xk_St)
  | 0 => fun _ _ _ => none
  | n + 1 => fun b3 b4 u =>
    xs_let (jb_Heap_find__h67_68_3 fu  n) fun k3 =>
    if b3 ≤ b4 then (some ((()), u)) else ((if b4 < 0 ∨ 2000 ≤ b4.toNatClampNeg then none else if (u.2.2.1 39 b4.toNatClampNeg) = (0 : Int32) then (jb_Heap_find__h67_68_88 fu k3 b3 b4 u) else ((if b4 < 0 ∨ 2000 ≤ b4.toNatClampNeg then none else if (u.2.2.2 12 b4.toNatClampNeg) ≤ (0 : Int64) then (jb_Heap_find__h67_68_88 fu k3 b3 b4 u) else ((if b4 < 0 ∨ 2000 ≤ b4.toNatClampNeg then none else if ((u.2.2.2 12 b4.toNatClampNeg).toInt32) < 0 ∨ 2001 ≤ ((u.2.2.2 12 b4.toNatClampNeg).toInt32).toNatClampNeg then none else if (u.2.2.1 43 ((u.2.2.2 12 b4.toNatClampNeg).toInt32).toNatClampNeg) = (0 : Int32) then ((if b4 < 0 ∨ 2000 ≤ b4.toNatClampNeg then none else if ((u.2.2.2 12 b4.toNatClampNeg).toInt32) < 0 ∨ 2001 ≤ ((u.2.2.2 12 b4.toNatClampNeg).toInt32).toNatClampNeg then none else xs_let (xs_A u 43 ((u.2.2.2 12 b4.toNatClampNeg).toInt32).toNatClampNeg (vp_nar .boolean (1 : Int32))) fun u2 => if b4 < 0 ∨ 2000 ≤ b4.toNatClampNeg then none else if (u2.1 31) < 0 ∨ 2000 ≤ (u2.1 31).toNatClampNeg then none else xs_let (xs_A u2 45 (u2.1 31).toNatClampNeg ((u2.2.2.2 12 b4.toNatClampNeg).toInt32)) fun u3 => xs_let (xs_I u3 31 ((u3.1 31) + (1 : Int32))) fun u4 => jb_Heap_find__h67_68_88 fu k3 b3 b4 u4)) else (jb_Heap_find__h67_68_88 fu k3 b3 b4 u)))))))
noncomputable def fm_Heap_find__h67_68 (fu : Nat) (x1 : Int32) (x2 : Int32) (u : xk_St) : Option (Unit × xk_St) :=
  jb_Heap_find__h67_68_3 fu fu x2 x1 u
set_option maxHeartbeats 4000000 in
set_option maxRecDepth 100000 in
theorem wj_Heap_find__h67_68_88 {p : Program} {l : Launch} {e : Env} {s : State} {m : MethodId} {args : Array Value} {below : List Frame} {meth : Method} {c : Code} {D : va_G} {ad : Nat → Nat} {ca : Nat → ClassId} {ads : List Nat} {fu : Nat} (htr : l.stackTraces = false) (C : xk_C D kx_cl (kx_ty ca) (kw_h ad ca) ads "ModuleHouse$Heap" prog_4_method_6_code 5 none p e s m args meth c) (hne : c.exceptionTable.isEmpty = true) {u' : xk_St} {r : Unit} {k3 : Int32 → Int32 → xk_St → Option (Unit × xk_St)} (hk3 : ∀ (c0 : Int32) (c1 : Int32) (u : xk_St) (H : Heap) (locs : List Loc) (ls : Array Slot), k3 c0 c1 u = some (r, u') → va_P D kx_cl (kw_h ad ca u) H → va_S (xk_A ads s.heap.size) s.heap H locs → lv_has ls 5 [(0, .ref (ad 67)), (1, .ref (ad 68)), (3, .int c0), (4, .int c1)] → W p l e rm_Heap_find__h67_68 s m args below meth c H locs 0 0 (xk_MQ below (xk_Qc D kx_cl (kw_h ad ca) ads (xo_v (.inl r)) u') args s (xk_A ads s.heap.size)) (F0 m 3 ls [])) {b3 : Int32} {b4 : Int32} {u : xk_St} {H : Heap} {locs : List Loc} {ls : Array Slot} (h : jb_Heap_find__h67_68_88 fu k3 b3 b4 u = some (r, u')) (hP : va_P D kx_cl (kw_h ad ca u) H) (hS : va_S (xk_A ads s.heap.size) s.heap H locs) (hl : lv_has ls 5 [(0, .ref (ad 67)), (1, .ref (ad 68)), (3, .int b3), (4, .int b4)]) : W p l e rm_Heap_find__h67_68 s m args below meth c H locs 0 0 (xk_MQ below (xk_Qc D kx_cl (kw_h ad ca) ads (xo_v (.inl r)) u') args s (xk_A ads s.heap.size)) (F0 m 88 ls []) := by
  have hx := C.1.1
  have hb := C.1.2.1
  have hok := C.2.2.1
  unfold jb_Heap_find__h67_68_88 at h
  obtain ⟨a1, ea1, h⟩ := xp_let h
  refine lv_iinc (v := a1) (lv' := [(4, .int a1), (0, .ref (ad 67)), (1, .ref (ad 68)), (3, .int b3)]) hx hb dd_Heap_find_88 hl (k := 3) rfl (by rw [ea1]; first | rfl | decide) (by decide) rfl (fun ls hl => ?_)
  refine lv_goto (tgt := 3) hx hb dd_Heap_find_91 (by decide) ?_
  exact hk3 b3 a1 u _ _ _ h hP hS (lv_sub hl [1, 2, 3, 0] rfl)
set_option maxHeartbeats 4000000 in
set_option maxRecDepth 100000 in
theorem wj_Heap_find__h67_68_3 {p : Program} {l : Launch} {e : Env} {s : State} {m : MethodId} {args : Array Value} {below : List Frame} {meth : Method} {c : Code} {D : va_G} {ad : Nat → Nat} {ca : Nat → ClassId} {ads : List Nat} {fu : Nat} (htr : l.stackTraces = false) (C : xk_C D kx_cl (kx_ty ca) (kw_h ad ca) ads "ModuleHouse$Heap" prog_4_method_6_code 5 none p e s m args meth c) (hne : c.exceptionTable.isEmpty = true) {u' : xk_St} {r : Unit} : ∀ {n : Nat} {b3 : Int32} {b4 : Int32} {u : xk_St} {H : Heap} {locs : List Loc} {ls : Array Slot} (h : jb_Heap_find__h67_68_3 fu  n b3 b4 u = some (r, u')) (hP : va_P D kx_cl (kw_h ad ca u) H) (hS : va_S (xk_A ads s.heap.size) s.heap H locs) (hl : lv_has ls 5 [(0, .ref (ad 67)), (1, .ref (ad 68)), (3, .int b3), (4, .int b4)]), W p l e rm_Heap_find__h67_68 s m args below meth c H locs 0 0 (xk_MQ below (xk_Qc D kx_cl (kw_h ad ca) ads (xo_v (.inl r)) u') args s (xk_A ads s.heap.size)) (F0 m 3 ls []) := by
  intro n
  have hx := C.1.1
  have hb := C.1.2.1
  have hok := C.2.2.1
  induction n with
  | zero =>
    intro _ _ u H locs ls h
    have h : none = some (r, u') := h
    cases h
  | succ n ih =>
    intro b3 b4 u H locs ls h hP hS hl
    unfold jb_Heap_find__h67_68_3 at h
    obtain ⟨k3, ek3, h⟩ := xp_let h
    have hk3 : ∀ (c0 : Int32) (c1 : Int32) (u : xk_St) (H : Heap) (locs : List Loc) (ls : Array Slot), k3 c0 c1 u = some (r, u') → va_P D kx_cl (kw_h ad ca u) H → va_S (xk_A ads s.heap.size) s.heap H locs → lv_has ls 5 [(0, .ref (ad 67)), (1, .ref (ad 68)), (3, .int c0), (4, .int c1)] → W p l e rm_Heap_find__h67_68 s m args below meth c H locs 0 0 (xk_MQ below (xk_Qc D kx_cl (kw_h ad ca) ads (xo_v (.inl r)) u') args s (xk_A ads s.heap.size)) (F0 m 3 ls []) := by
      intro c0 c1 u H locs ls h hP hS hl
      subst ek3
      exact ih h hP hS hl
    clear ih ek3
    refine lv_iload hx hb dd_Heap_find_3 (lv_at hl 3 rfl) ?_
    refine lv_iload_n hx hb dd_Heap_find_5 rfl (lv_at hl 2 rfl) ?_
    refine lv_icmp_ge (tgt := 94) hx hb dd_Heap_find_6 (by decide) (fun hc => ?_) (fun hc => ?_)
    · have h := xp_t hc h
      obtain ⟨rfl, rfl⟩ := xp_r h
      exact xr_vret C hP hS dd_Heap_find_94
    · have h := xp_f hc h
      refine lv_aload_n hx hb dd_Heap_find_9 rfl (lv_at hl 1 rfl) ?_
      refine gf_h_Heap_68_refers C hP dd_Heap_find_10 ?_
      refine lv_iload hx hb dd_Heap_find_13 (lv_at hl 3 rfl) ?_
      obtain ⟨hi, h⟩ := xp_g h
      refine al_h_70 C hP hi dd_Heap_find_15 ?_
      refine lv_if_eq (tgt := 88) hx hb dd_Heap_find_16 (by decide) (fun hc => ?_) (fun hc => ?_)
      · have h := xp_t hc h
        exact wj_Heap_find__h67_68_88 htr C hne hk3 h hP hS (lv_sub hl [0, 1, 2, 3] rfl)
      · have h := xp_f hc h
        refine lv_aload_n hx hb dd_Heap_find_19 rfl (lv_at hl 1 rfl) ?_
        refine gf_h_Heap_68_value C hP dd_Heap_find_20 ?_
        refine lv_iload hx hb dd_Heap_find_23 (lv_at hl 3 rfl) ?_
        obtain ⟨hi, h⟩ := xp_g h
        refine al_h_69 C hP hi dd_Heap_find_25 ?_
        refine lv_lconst (v := 0) hx hb dd_Heap_find_26 (by decide) ?_
        refine xr_lc_le (tgt := 88) hx hb dd_Heap_find_27 dd_Heap_find_28 (by decide) (fun hc => ?_) (fun hc => ?_)
        · have h := xp_t hc h
          exact wj_Heap_find__h67_68_88 htr C hne hk3 h hP hS (lv_sub hl [0, 1, 2, 3] rfl)
        · have h := xp_f hc h
          refine lv_aload_n hx hb dd_Heap_find_31 rfl (lv_at hl 0 rfl) ?_
          refine gf_h_Heap_67_lives C hP dd_Heap_find_32 ?_
          refine lv_aload_n hx hb dd_Heap_find_35 rfl (lv_at hl 1 rfl) ?_
          refine gf_h_Heap_68_value C hP dd_Heap_find_36 ?_
          refine lv_iload hx hb dd_Heap_find_39 (lv_at hl 3 rfl) ?_
          obtain ⟨hi, h⟩ := xp_g h
          refine al_h_69 C hP hi dd_Heap_find_41 ?_
          refine lv_l2i hx hb dd_Heap_find_42 rfl ?_
          obtain ⟨hi, h⟩ := xp_g h
          refine al_h_74 C hP hi dd_Heap_find_43 ?_
          refine lv_if_ne (tgt := 88) hx hb dd_Heap_find_44 (by decide) (fun hc => ?_) (fun hc => ?_)
          · have h := xp_f hc h
            exact wj_Heap_find__h67_68_88 htr C hne hk3 h hP hS (lv_sub hl [0, 1, 2, 3] rfl)
          · have h := xp_t hc h
            refine lv_aload_n hx hb dd_Heap_find_47 rfl (lv_at hl 0 rfl) ?_
            refine gf_h_Heap_67_lives C hP dd_Heap_find_48 ?_
            refine lv_aload_n hx hb dd_Heap_find_51 rfl (lv_at hl 1 rfl) ?_
            refine gf_h_Heap_68_value C hP dd_Heap_find_52 ?_
            refine lv_iload hx hb dd_Heap_find_55 (lv_at hl 3 rfl) ?_
            obtain ⟨hi, h⟩ := xp_g h
            refine al_h_69 C hP hi dd_Heap_find_57 ?_
            refine lv_l2i hx hb dd_Heap_find_58 rfl ?_
            refine lv_iconst (v := 1) hx hb dd_Heap_find_59 (by decide) ?_
            obtain ⟨hi, h⟩ := xp_g h
            refine as_h_74 C hP hS hi dd_Heap_find_60 (fun H locs hP hS => ?_)
            obtain ⟨u2, eu2, h⟩ := xp_let h
            rw [← eu2] at hP
            refine lv_aload_n hx hb dd_Heap_find_61 rfl (lv_at hl 0 rfl) ?_
            refine gf_h_Heap_67_found C hP dd_Heap_find_62 ?_
            refine lv_aload_n hx hb dd_Heap_find_65 rfl (lv_at hl 0 rfl) ?_
            refine gf_h_Heap_67_foundCount C hP dd_Heap_find_66 ?_
            refine lv_aload_n hx hb dd_Heap_find_69 rfl (lv_at hl 1 rfl) ?_
            refine gf_h_Heap_68_value C hP dd_Heap_find_70 ?_
            refine lv_iload hx hb dd_Heap_find_73 (lv_at hl 3 rfl) ?_
            obtain ⟨hi, h⟩ := xp_g h
            refine al_h_69 C hP hi dd_Heap_find_75 ?_
            refine lv_l2i hx hb dd_Heap_find_76 rfl ?_
            obtain ⟨hi, h⟩ := xp_g h
            refine as_h_76 C hP hS hi dd_Heap_find_77 (fun H locs hP hS => ?_)
            obtain ⟨u3, eu3, h⟩ := xp_let h
            rw [← eu3] at hP
            refine lv_aload_n hx hb dd_Heap_find_78 rfl (lv_at hl 0 rfl) ?_
            refine lv_dup hx hb dd_Heap_find_79 rfl ?_
            refine gf_h_Heap_67_foundCount C hP dd_Heap_find_80 ?_
            refine lv_iconst (v := 1) hx hb dd_Heap_find_83 (by decide) ?_
            refine lv_iadd hx hb dd_Heap_find_84 ?_
            refine pf_h_Heap_67_foundCount C hP hS dd_Heap_find_85 (fun H locs hP hS => ?_)
            obtain ⟨u4, eu4, h⟩ := xp_let h
            rw [← eu4] at hP
            exact wj_Heap_find__h67_68_88 htr C hne hk3 h hP hS (lv_sub hl [0, 1, 2, 3] rfl)
set_option maxHeartbeats 4000000 in
set_option maxRecDepth 100000 in
theorem ct_Heap_find__h67_68 {l : Launch} {D : va_G} {ad : Nat → Nat} {ca : Nat → ClassId} {ads : List Nat} (htr : l.stackTraces = false) (hok : xk_ok (kw_h ad ca) ads) {fu : Nat} {x1 : Int32} {x2 : Int32} {u u' : xk_St} {r : Unit} (h : fm_Heap_find__h67_68 fu x1 x2 u = some (r, u')) :
    ∀ sz, xk_Met l ⟨"ModuleHouse$Heap", "find", "(LModuleHouse$Values;II)V"⟩ (Cond.code ⟨"ModuleHouse$Heap", "find", "(LModuleHouse$Values;II)V"⟩ prog_4_method_6_code 5 none :: xk_gd) rm_Heap_find__h67_68 (xk_Pc D kx_cl (kx_ty ca) (kw_h ad ca) ads xk_F sz [.ref (ad 67), .ref (ad 68), .int x1, .int x2] u) (xk_Qc D kx_cl (kw_h ad ca) ads (xo_v (.inl r)) u') (xk_A ads sz) := by
  unfold fm_Heap_find__h67_68 at h
  refine xk_con (by decide) htr hok (Nat.le_of_ble_eq_true rfl) (fun p e s m below meth c ls C hne hl hP => ?_)
  have hx := C.1.1
  have hb := C.1.2.1
  have hS : va_S (xk_A ads s.heap.size) s.heap s.heap [] := va_S.rf
  have hl : lv_has ls 5 [(0, .ref (ad 67)), (1, .ref (ad 68)), (2, .int x1), (3, .int x2)] := hl
  refine lv_iload_n hx hb dd_Heap_find_0 rfl (lv_at hl 2 rfl) ?_
  refine lv_istore (lv' := [(4, .int x1), (0, .ref (ad 67)), (1, .ref (ad 68)), (2, .int x1), (3, .int x2)]) hx hb dd_Heap_find_1 hl (by decide) rfl (fun ls hl => ?_)
  exact wj_Heap_find__h67_68_3 htr C hne h hP hS (lv_sub hl [1, 2, 4, 0] rfl)
abbrev rm_Heap_collect : Room := { frames := 2, cells := 1, slots := 6, locals := 84 }
noncomputable def jb_Heap_collect_84 (fu : Nat) (u : xk_St) : Option (Int32 × xk_St) :=
  (xs_seq (fm_Heap_moveTogether fu u) fun _ u4 => some ((u4.1 32), u4))
noncomputable def jb_Heap_collect_27 (fu : Nat) : Nat → Int32 → xk_St → Option (Int32 × xk_St)
  | 0 => fun _ _ => none
  | n + 1 => fun b3 u =>
    xs_let (jb_Heap_collect_27 fu  n) fun k27 =>
    if (u.1 31) ≤ b3 then (jb_Heap_collect_84 fu u) else (if (2000 : Int32) ≤ b3 then (jb_Heap_collect_84 fu u) else ((if b3 < 0 ∨ 2000 ≤ b3.toNatClampNeg then none else xs_let (u.2.2.1 45 b3.toNatClampNeg) fun a5 => xs_seq (fm_Heap_cellOf a5 (0 : Int32) u) fun a6 u7 => if a5 < 0 ∨ 2001 ≤ a5.toNatClampNeg then none else xs_seq (fm_Heap_cellOf a5 (u7.2.2.1 41 a5.toNatClampNeg) u7) fun a8 u9 => xs_seq (fm_Heap_find__h67_68 fu a6 a8 u9) fun _ u10 => xs_let (b3 + (1 : Int32)) fun a11 => k27 a11 u10)))
noncomputable def fm_Heap_collect (fu : Nat) (u : xk_St) : Option (Int32 × xk_St) :=
  (xs_let (xs_I u 31 (0 : Int32)) fun u1 => xs_seq (fm_Heap_find fu (0 : Int32) (u1.1 28) u1) fun _ u2 => xs_seq (fm_Heap_find__h67_64 fu (0 : Int32) (u2.1 29) u2) fun _ u3 => jb_Heap_collect_27 fu fu (0 : Int32) u3)
set_option maxHeartbeats 4000000 in
set_option maxRecDepth 100000 in
theorem wj_Heap_collect_84 {p : Program} {l : Launch} {e : Env} {s : State} {m : MethodId} {args : Array Value} {below : List Frame} {meth : Method} {c : Code} {D : va_G} {ad : Nat → Nat} {ca : Nat → ClassId} {ads : List Nat} {fu : Nat} (htr : l.stackTraces = false) (C : xk_C D kx_cl (kx_ty ca) (kw_h ad ca) ads "ModuleHouse$Heap" prog_4_method_5_code 5 (some .int) p e s m args meth c) (hne : c.exceptionTable.isEmpty = true) {u' : xk_St} {r : Int32} {u : xk_St} {H : Heap} {locs : List Loc} {ls : Array Slot} (h : jb_Heap_collect_84 fu   u = some (r, u')) (hP : va_P D kx_cl (kw_h ad ca u) H) (hS : va_S (xk_A ads s.heap.size) s.heap H locs) (hl : lv_has ls 5 [(0, .ref (ad 67))]) : W p l e rm_Heap_collect s m args below meth c H locs 0 0 (xk_MQ below (xk_Qc D kx_cl (kw_h ad ca) ads (xo_i (.inl r)) u') args s (xk_A ads s.heap.size)) (F0 m 84 ls []) := by
  have hx := C.1.1
  have hb := C.1.2.1
  have hok := C.2.2.1
  unfold jb_Heap_collect_84 at h
  refine lv_aload_n hx hb dd_Heap_collect_84 rfl (lv_at hl 0 rfl) ?_
  obtain ⟨rx, u4, hq, h⟩ := xp_seq h
  refine xk_goesV (xr_V (As := []) (rest := []) C hP hS (ct_Heap_moveTogether htr hok hq) kq_Heap_71 67 3 rfl rfl ⟨rfl, rfl, Nat.le_of_ble_eq_true rfl, Nat.le_of_ble_eq_true rfl⟩ ⟨Nat.le_of_ble_eq_true rfl, Nat.le_of_ble_eq_true rfl⟩ hl.1 rfl rfl (Nat.le_of_ble_eq_true rfl) dd_Heap_collect_85) hS (fun H locs hP hS => ?_)
  clear hq
  refine lv_aload_n hx hb dd_Heap_collect_88 rfl (lv_at hl 0 rfl) ?_
  refine gf_h_Heap_67_cells C hP dd_Heap_collect_89 ?_
  refine gf_h_Heap_68_top C hP dd_Heap_collect_92 ?_
  obtain ⟨rfl, rfl⟩ := xp_r h
  exact xr_iret C hP hS dd_Heap_collect_95
set_option maxHeartbeats 4000000 in
set_option maxRecDepth 100000 in
theorem wj_Heap_collect_27 {p : Program} {l : Launch} {e : Env} {s : State} {m : MethodId} {args : Array Value} {below : List Frame} {meth : Method} {c : Code} {D : va_G} {ad : Nat → Nat} {ca : Nat → ClassId} {ads : List Nat} {fu : Nat} (htr : l.stackTraces = false) (C : xk_C D kx_cl (kx_ty ca) (kw_h ad ca) ads "ModuleHouse$Heap" prog_4_method_5_code 5 (some .int) p e s m args meth c) (hne : c.exceptionTable.isEmpty = true) {u' : xk_St} {r : Int32} : ∀ {n : Nat} {b3 : Int32} {u : xk_St} {H : Heap} {locs : List Loc} {ls : Array Slot} (h : jb_Heap_collect_27 fu  n b3 u = some (r, u')) (hP : va_P D kx_cl (kw_h ad ca u) H) (hS : va_S (xk_A ads s.heap.size) s.heap H locs) (hl : lv_has ls 5 [(0, .ref (ad 67)), (3, .int b3)]), W p l e rm_Heap_collect s m args below meth c H locs 0 0 (xk_MQ below (xk_Qc D kx_cl (kw_h ad ca) ads (xo_i (.inl r)) u') args s (xk_A ads s.heap.size)) (F0 m 27 ls []) := by
  intro n
  have hx := C.1.1
  have hb := C.1.2.1
  have hok := C.2.2.1
  induction n with
  | zero =>
    intro _ u H locs ls h
    have h : none = some (r, u') := h
    cases h
  | succ n ih =>
    intro b3 u H locs ls h hP hS hl
    unfold jb_Heap_collect_27 at h
    obtain ⟨k27, ek27, h⟩ := xp_let h
    have hk27 : ∀ (c0 : Int32) (u : xk_St) (H : Heap) (locs : List Loc) (ls : Array Slot), k27 c0 u = some (r, u') → va_P D kx_cl (kw_h ad ca u) H → va_S (xk_A ads s.heap.size) s.heap H locs → lv_has ls 5 [(0, .ref (ad 67)), (3, .int c0)] → W p l e rm_Heap_collect s m args below meth c H locs 0 0 (xk_MQ below (xk_Qc D kx_cl (kw_h ad ca) ads (xo_i (.inl r)) u') args s (xk_A ads s.heap.size)) (F0 m 27 ls []) := by
      intro c0 u H locs ls h hP hS hl
      subst ek27
      exact ih h hP hS hl
    clear ih ek27
    refine lv_iload_n hx hb dd_Heap_collect_27 rfl (lv_at hl 1 rfl) ?_
    refine lv_aload_n hx hb dd_Heap_collect_28 rfl (lv_at hl 0 rfl) ?_
    refine gf_h_Heap_67_foundCount C hP dd_Heap_collect_29 ?_
    refine lv_icmp_ge (tgt := 84) hx hb dd_Heap_collect_32 (by decide) (fun hc => ?_) (fun hc => ?_)
    · have h := xp_t hc h
      exact wj_Heap_collect_84 htr C hne h hP hS (lv_sub hl [0] rfl)
    · have h := xp_f hc h
      refine lv_iload_n hx hb dd_Heap_collect_35 rfl (lv_at hl 1 rfl) ?_
      refine lv_sipush (v := 2000) hx hb dd_Heap_collect_36 (by decide) ?_
      refine lv_icmp_ge (tgt := 84) hx hb dd_Heap_collect_39 (by decide) (fun hc => ?_) (fun hc => ?_)
      · have h := xp_t hc h
        exact wj_Heap_collect_84 htr C hne h hP hS (lv_sub hl [0] rfl)
      · have h := xp_f hc h
        refine lv_aload_n hx hb dd_Heap_collect_42 rfl (lv_at hl 0 rfl) ?_
        refine gf_h_Heap_67_found C hP dd_Heap_collect_43 ?_
        refine lv_iload_n hx hb dd_Heap_collect_46 rfl (lv_at hl 1 rfl) ?_
        obtain ⟨hi, h⟩ := xp_g h
        refine al_h_76 C hP hi dd_Heap_collect_47 ?_
        obtain ⟨a5, ea5, h⟩ := xp_let h
        refine xr_nami ea5 ?_
        refine lv_istore (lv' := [(4, .int a5), (0, .ref (ad 67)), (3, .int b3)]) hx hb dd_Heap_collect_48 hl (by decide) rfl (fun ls hl => ?_)
        refine lv_aload_n hx hb dd_Heap_collect_50 rfl (lv_at hl 1 rfl) ?_
        refine lv_aload_n hx hb dd_Heap_collect_51 rfl (lv_at hl 1 rfl) ?_
        refine gf_h_Heap_67_cells C hP dd_Heap_collect_52 ?_
        refine lv_aload_n hx hb dd_Heap_collect_55 rfl (lv_at hl 1 rfl) ?_
        refine lv_iload hx hb dd_Heap_collect_56 (lv_at hl 0 rfl) ?_
        refine lv_iconst (v := 0) hx hb dd_Heap_collect_58 (by decide) ?_
        obtain ⟨a6, u7, hq, h⟩ := xp_seq h
        refine xk_goesI (xr_V (As := [.int a5, .int (0 : Int32)]) (rest := [.ref (ad 68), .ref (ad 67)]) C hP hS (ct_Heap_cellOf htr hok hq) kq_Heap_67 67 3 rfl rfl ⟨rfl, rfl, Nat.le_of_ble_eq_true rfl, Nat.le_of_ble_eq_true rfl⟩ ⟨Nat.le_of_ble_eq_true rfl, Nat.le_of_ble_eq_true rfl⟩ hl.1 rfl rfl (Nat.le_of_ble_eq_true rfl) dd_Heap_collect_59) hS (fun H locs hP hS => ?_)
        clear hq
        refine lv_aload_n hx hb dd_Heap_collect_62 rfl (lv_at hl 1 rfl) ?_
        refine lv_iload hx hb dd_Heap_collect_63 (lv_at hl 0 rfl) ?_
        refine lv_aload_n hx hb dd_Heap_collect_65 rfl (lv_at hl 1 rfl) ?_
        refine gf_h_Heap_67_size C hP dd_Heap_collect_66 ?_
        refine lv_iload hx hb dd_Heap_collect_69 (lv_at hl 0 rfl) ?_
        obtain ⟨hi, h⟩ := xp_g h
        refine al_h_72 C hP hi dd_Heap_collect_71 ?_
        obtain ⟨a8, u9, hq, h⟩ := xp_seq h
        refine xk_goesI (xr_V (As := [.int a5, .int (u7.2.2.1 41 a5.toNatClampNeg)]) (rest := [.int a6, .ref (ad 68), .ref (ad 67)]) C hP hS (ct_Heap_cellOf htr hok hq) kq_Heap_67 67 3 rfl rfl ⟨rfl, rfl, Nat.le_of_ble_eq_true rfl, Nat.le_of_ble_eq_true rfl⟩ ⟨Nat.le_of_ble_eq_true rfl, Nat.le_of_ble_eq_true rfl⟩ hl.1 rfl rfl (Nat.le_of_ble_eq_true rfl) dd_Heap_collect_72) hS (fun H locs hP hS => ?_)
        clear hq
        obtain ⟨rx, u10, hq, h⟩ := xp_seq h
        refine xk_goesV (xr_V (As := [.ref (ad 68), .int a6, .int a8]) (rest := []) C hP hS (ct_Heap_find__h67_68 htr hok hq) kq_Heap_63 67 3 rfl rfl ⟨rfl, rfl, Nat.le_of_ble_eq_true rfl, Nat.le_of_ble_eq_true rfl⟩ ⟨Nat.le_of_ble_eq_true rfl, Nat.le_of_ble_eq_true rfl⟩ hl.1 rfl rfl (Nat.le_of_ble_eq_true rfl) dd_Heap_collect_75) hS (fun H locs hP hS => ?_)
        clear hq
        obtain ⟨a11, ea11, h⟩ := xp_let h
        refine lv_iinc (v := a11) (lv' := [(3, .int a11), (4, .int a5), (0, .ref (ad 67))]) hx hb dd_Heap_collect_78 hl (k := 2) rfl (by rw [ea11]; first | rfl | decide) (by decide) rfl (fun ls hl => ?_)
        refine lv_goto (tgt := 27) hx hb dd_Heap_collect_81 (by decide) ?_
        exact hk27 a11 u10 _ _ _ h hP hS (lv_sub hl [2, 0] rfl)
set_option maxHeartbeats 4000000 in
set_option maxRecDepth 100000 in
theorem ct_Heap_collect {l : Launch} {D : va_G} {ad : Nat → Nat} {ca : Nat → ClassId} {ads : List Nat} (htr : l.stackTraces = false) (hok : xk_ok (kw_h ad ca) ads) {fu : Nat} {u u' : xk_St} {r : Int32} (h : fm_Heap_collect fu u = some (r, u')) :
    ∀ sz, xk_Met l ⟨"ModuleHouse$Heap", "collect", "(LModuleHouse$Values;LModuleHouse$Values;)I"⟩ (Cond.code ⟨"ModuleHouse$Heap", "collect", "(LModuleHouse$Values;LModuleHouse$Values;)I"⟩ prog_4_method_5_code 5 (some .int) :: xk_gd) rm_Heap_collect (xk_Pc D kx_cl (kx_ty ca) (kw_h ad ca) ads xk_F sz [.ref (ad 67), .ref (ad 61), .ref (ad 64)] u) (xk_Qc D kx_cl (kw_h ad ca) ads (xo_i (.inl r)) u') (xk_A ads sz) := by
  unfold fm_Heap_collect at h
  refine xk_con (by decide) htr hok (Nat.le_of_ble_eq_true rfl) (fun p e s m below meth c ls C hne hl hP => ?_)
  have hx := C.1.1
  have hb := C.1.2.1
  have hS : va_S (xk_A ads s.heap.size) s.heap s.heap [] := va_S.rf
  have hl : lv_has ls 5 [(0, .ref (ad 67)), (1, .ref (ad 61)), (2, .ref (ad 64))] := hl
  refine lv_aload_n hx hb dd_Heap_collect_0 rfl (lv_at hl 0 rfl) ?_
  refine lv_iconst (v := 0) hx hb dd_Heap_collect_1 (by decide) ?_
  refine pf_h_Heap_67_foundCount C hP hS dd_Heap_collect_2 (fun H locs hP hS => ?_)
  obtain ⟨u1, eu1, h⟩ := xp_let h
  rw [← eu1] at hP
  refine lv_aload_n hx hb dd_Heap_collect_5 rfl (lv_at hl 0 rfl) ?_
  refine lv_aload_n hx hb dd_Heap_collect_6 rfl (lv_at hl 1 rfl) ?_
  refine lv_iconst (v := 0) hx hb dd_Heap_collect_7 (by decide) ?_
  refine lv_aload_n hx hb dd_Heap_collect_8 rfl (lv_at hl 1 rfl) ?_
  refine gf_h_Heap_61_top C hP dd_Heap_collect_9 ?_
  obtain ⟨rx, u2, hq, h⟩ := xp_seq h
  refine xk_goesV (xr_V (As := [.ref (ad 61), .int (0 : Int32), .int (u1.1 28)]) (rest := []) C hP hS (ct_Heap_find htr hok hq) kq_Heap_63 67 3 rfl rfl ⟨rfl, rfl, Nat.le_of_ble_eq_true rfl, Nat.le_of_ble_eq_true rfl⟩ ⟨Nat.le_of_ble_eq_true rfl, Nat.le_of_ble_eq_true rfl⟩ hl.1 rfl rfl (Nat.le_of_ble_eq_true rfl) dd_Heap_collect_12) hS (fun H locs hP hS => ?_)
  clear hq
  refine lv_aload_n hx hb dd_Heap_collect_15 rfl (lv_at hl 0 rfl) ?_
  refine lv_aload_n hx hb dd_Heap_collect_16 rfl (lv_at hl 2 rfl) ?_
  refine lv_iconst (v := 0) hx hb dd_Heap_collect_17 (by decide) ?_
  refine lv_aload_n hx hb dd_Heap_collect_18 rfl (lv_at hl 2 rfl) ?_
  refine gf_h_Heap_64_top C hP dd_Heap_collect_19 ?_
  obtain ⟨rx, u3, hq, h⟩ := xp_seq h
  refine xk_goesV (xr_V (As := [.ref (ad 64), .int (0 : Int32), .int (u2.1 29)]) (rest := []) C hP hS (ct_Heap_find__h67_64 htr hok hq) kq_Heap_63 67 3 rfl rfl ⟨rfl, rfl, Nat.le_of_ble_eq_true rfl, Nat.le_of_ble_eq_true rfl⟩ ⟨Nat.le_of_ble_eq_true rfl, Nat.le_of_ble_eq_true rfl⟩ hl.1 rfl rfl (Nat.le_of_ble_eq_true rfl) dd_Heap_collect_22) hS (fun H locs hP hS => ?_)
  clear hq
  refine lv_iconst (v := 0) hx hb dd_Heap_collect_25 (by decide) ?_
  refine lv_istore_n (lv' := [(3, .int (0 : Int32)), (0, .ref (ad 67)), (1, .ref (ad 61)), (2, .ref (ad 64))]) hx hb dd_Heap_collect_26 rfl hl (by decide) rfl (fun ls hl => ?_)
  exact wj_Heap_collect_27 htr C hne h hP hS (lv_sub hl [1, 0] rfl)
abbrev rm_Heap_make : Room := { frames := 9, cells := 1, slots := 6, locals := 169 }
noncomputable def jb_Heap_make_41 (fu : Nat) (b1 : Int32) (b2 : Int64) (u : xk_St) : Option (Int32 × xk_St) :=
  (xs_let (xs_I u 30 ((u.1 30) - (1 : Int32))) fun u1 => if (u1.1 30) < 0 ∨ 2000 ≤ (u1.1 30).toNatClampNeg then none else xs_let (u1.2.2.1 44 (u1.1 30).toNatClampNeg) fun a2 => if a2 < 0 ∨ 2001 ≤ a2.toNatClampNeg then none else xs_let (xs_A u1 40 a2.toNatClampNeg b1) fun u3 => if a2 < 0 ∨ 2001 ≤ a2.toNatClampNeg then none else xs_let (xs_A u3 41 a2.toNatClampNeg (b2.toInt32)) fun u4 => if a2 < 0 ∨ 2001 ≤ a2.toNatClampNeg then none else xs_let (xs_A u4 42 a2.toNatClampNeg (u4.1 32)) fun u5 => xs_seq (fm_Values_push__h68 (a2.toInt64) u5) fun _ u6 => xs_seq (fm_Values_pushZeros__h68 fu (b2.toInt32) u6) fun _ u7 => some (a2, u7))
noncomputable def fm_Heap_make (fu : Nat) (x0 : Int32) (x1 : Int64) (u : xk_St) : Option (Int32 × xk_St) :=
  if ((((u.1 32) + (1 : Int32)).toInt64) + x1) ≤ (2000 : Int64) then (jb_Heap_make_41 fu x0 x1 u) else ((xs_seq (fm_Heap_collect fu u) fun a8 u9 => if (((a8 + (1 : Int32)).toInt64) + x1) ≤ (2000 : Int64) then (jb_Heap_make_41 fu x0 x1 u9) else (some ((0 : Int32), u9))))
set_option maxHeartbeats 4000000 in
set_option maxRecDepth 100000 in
theorem wj_Heap_make_41 {p : Program} {l : Launch} {e : Env} {s : State} {m : MethodId} {args : Array Value} {below : List Frame} {meth : Method} {c : Code} {D : va_G} {ad : Nat → Nat} {ca : Nat → ClassId} {ads : List Nat} {fu : Nat} (htr : l.stackTraces = false) (C : xk_C D kx_cl (kx_ty ca) (kw_h ad ca) ads "ModuleHouse$Heap" prog_4_method_4_code 7 (some .int) p e s m args meth c) (hne : c.exceptionTable.isEmpty = true) {u' : xk_St} {r : Int32} {b1 : Int32} {b2 : Int64} {u : xk_St} {H : Heap} {locs : List Loc} {ls : Array Slot} (h : jb_Heap_make_41 fu  b1 b2 u = some (r, u')) (hP : va_P D kx_cl (kw_h ad ca u) H) (hS : va_S (xk_A ads s.heap.size) s.heap H locs) (hl : lv_has ls 7 [(0, .ref (ad 67)), (1, .int b1), (2, .long b2)]) : W p l e rm_Heap_make s m args below meth c H locs 0 0 (xk_MQ below (xk_Qc D kx_cl (kw_h ad ca) ads (xo_i (.inl r)) u') args s (xk_A ads s.heap.size)) (F0 m 41 ls []) := by
  have hx := C.1.1
  have hb := C.1.2.1
  have hok := C.2.2.1
  unfold jb_Heap_make_41 at h
  refine lv_aload_n hx hb dd_Heap_make_41 rfl (lv_at hl 0 rfl) ?_
  refine lv_dup hx hb dd_Heap_make_42 rfl ?_
  refine gf_h_Heap_67_freeCount C hP dd_Heap_make_43 ?_
  refine lv_iconst (v := 1) hx hb dd_Heap_make_46 (by decide) ?_
  refine lv_isub hx hb dd_Heap_make_47 ?_
  refine pf_h_Heap_67_freeCount C hP hS dd_Heap_make_48 (fun H locs hP hS => ?_)
  obtain ⟨u1, eu1, h⟩ := xp_let h
  rw [← eu1] at hP
  refine lv_aload_n hx hb dd_Heap_make_51 rfl (lv_at hl 0 rfl) ?_
  refine gf_h_Heap_67_free C hP dd_Heap_make_52 ?_
  refine lv_aload_n hx hb dd_Heap_make_55 rfl (lv_at hl 0 rfl) ?_
  refine gf_h_Heap_67_freeCount C hP dd_Heap_make_56 ?_
  obtain ⟨hi, h⟩ := xp_g h
  refine al_h_75 C hP hi dd_Heap_make_59 ?_
  obtain ⟨a2, ea2, h⟩ := xp_let h
  refine xr_nami ea2 ?_
  refine lv_istore (lv' := [(6, .int a2), (0, .ref (ad 67)), (1, .int b1), (2, .long b2)]) hx hb dd_Heap_make_60 hl (by decide) rfl (fun ls hl => ?_)
  refine lv_aload_n hx hb dd_Heap_make_62 rfl (lv_at hl 1 rfl) ?_
  refine gf_h_Heap_67_kind C hP dd_Heap_make_63 ?_
  refine lv_iload hx hb dd_Heap_make_66 (lv_at hl 0 rfl) ?_
  refine lv_iload_n hx hb dd_Heap_make_68 rfl (lv_at hl 2 rfl) ?_
  obtain ⟨hi, h⟩ := xp_g h
  refine as_h_71 C hP hS hi dd_Heap_make_69 (fun H locs hP hS => ?_)
  obtain ⟨u3, eu3, h⟩ := xp_let h
  rw [← eu3] at hP
  refine lv_aload_n hx hb dd_Heap_make_70 rfl (lv_at hl 1 rfl) ?_
  refine gf_h_Heap_67_size C hP dd_Heap_make_71 ?_
  refine lv_iload hx hb dd_Heap_make_74 (lv_at hl 0 rfl) ?_
  refine lv_lload_n hx hb dd_Heap_make_76 rfl (lv_at hl 3 rfl) ?_
  refine lv_l2i hx hb dd_Heap_make_77 rfl ?_
  obtain ⟨hi, h⟩ := xp_g h
  refine as_h_72 C hP hS hi dd_Heap_make_78 (fun H locs hP hS => ?_)
  obtain ⟨u4, eu4, h⟩ := xp_let h
  rw [← eu4] at hP
  refine lv_aload_n hx hb dd_Heap_make_79 rfl (lv_at hl 1 rfl) ?_
  refine gf_h_Heap_67_start C hP dd_Heap_make_80 ?_
  refine lv_iload hx hb dd_Heap_make_83 (lv_at hl 0 rfl) ?_
  refine lv_aload_n hx hb dd_Heap_make_85 rfl (lv_at hl 1 rfl) ?_
  refine gf_h_Heap_67_cells C hP dd_Heap_make_86 ?_
  refine gf_h_Heap_68_top C hP dd_Heap_make_89 ?_
  obtain ⟨hi, h⟩ := xp_g h
  refine as_h_73 C hP hS hi dd_Heap_make_92 (fun H locs hP hS => ?_)
  obtain ⟨u5, eu5, h⟩ := xp_let h
  rw [← eu5] at hP
  refine lv_aload_n hx hb dd_Heap_make_93 rfl (lv_at hl 1 rfl) ?_
  refine gf_h_Heap_67_cells C hP dd_Heap_make_94 ?_
  refine lv_iload hx hb dd_Heap_make_97 (lv_at hl 0 rfl) ?_
  refine lv_i2l hx hb dd_Heap_make_99 rfl ?_
  obtain ⟨rx, u6, hq, h⟩ := xp_seq h
  refine xk_goesV (xr_V (As := [.long (a2.toInt64)]) (rest := []) C hP hS (ct_Values_push__h68 htr hok hq) kq_Heap_56 68 10 rfl rfl ⟨rfl, rfl, Nat.le_of_ble_eq_true rfl, Nat.le_of_ble_eq_true rfl⟩ ⟨Nat.le_of_ble_eq_true rfl, Nat.le_of_ble_eq_true rfl⟩ hl.1 rfl rfl (Nat.le_of_ble_eq_true rfl) dd_Heap_make_100) hS (fun H locs hP hS => ?_)
  clear hq
  refine lv_aload_n hx hb dd_Heap_make_103 rfl (lv_at hl 1 rfl) ?_
  refine gf_h_Heap_67_cells C hP dd_Heap_make_104 ?_
  refine lv_lload_n hx hb dd_Heap_make_107 rfl (lv_at hl 3 rfl) ?_
  refine lv_l2i hx hb dd_Heap_make_108 rfl ?_
  obtain ⟨rx, u7, hq, h⟩ := xp_seq h
  refine xk_goesV (xr_V (As := [.int (b2.toInt32)]) (rest := []) C hP hS (ct_Values_pushZeros__h68 htr hok hq) kq_Heap_60 68 10 rfl rfl ⟨rfl, rfl, Nat.le_of_ble_eq_true rfl, Nat.le_of_ble_eq_true rfl⟩ ⟨Nat.le_of_ble_eq_true rfl, Nat.le_of_ble_eq_true rfl⟩ hl.1 rfl rfl (Nat.le_of_ble_eq_true rfl) dd_Heap_make_109) hS (fun H locs hP hS => ?_)
  clear hq
  refine lv_iload hx hb dd_Heap_make_112 (lv_at hl 0 rfl) ?_
  obtain ⟨rfl, rfl⟩ := xp_r h
  exact xr_iret C hP hS dd_Heap_make_114
set_option maxHeartbeats 4000000 in
set_option maxRecDepth 100000 in
theorem ct_Heap_make {l : Launch} {D : va_G} {ad : Nat → Nat} {ca : Nat → ClassId} {ads : List Nat} (htr : l.stackTraces = false) (hok : xk_ok (kw_h ad ca) ads) {fu : Nat} {x0 : Int32} {x1 : Int64} {u u' : xk_St} {r : Int32} (h : fm_Heap_make fu x0 x1 u = some (r, u')) :
    ∀ sz, xk_Met l ⟨"ModuleHouse$Heap", "make", "(IJLModuleHouse$Values;LModuleHouse$Values;)I"⟩ (Cond.code ⟨"ModuleHouse$Heap", "make", "(IJLModuleHouse$Values;LModuleHouse$Values;)I"⟩ prog_4_method_4_code 7 (some .int) :: xk_gd) rm_Heap_make (xk_Pc D kx_cl (kx_ty ca) (kw_h ad ca) ads xk_F sz [.ref (ad 67), .int x0, .long x1, .ref (ad 61), .ref (ad 64)] u) (xk_Qc D kx_cl (kw_h ad ca) ads (xo_i (.inl r)) u') (xk_A ads sz) := by
  unfold fm_Heap_make at h
  refine xk_con (by decide) htr hok (Nat.le_of_ble_eq_true rfl) (fun p e s m below meth c ls C hne hl hP => ?_)
  have hx := C.1.1
  have hb := C.1.2.1
  have hS : va_S (xk_A ads s.heap.size) s.heap s.heap [] := va_S.rf
  have hl : lv_has ls 7 [(0, .ref (ad 67)), (1, .int x0), (2, .long x1), (4, .ref (ad 61)), (5, .ref (ad 64))] := hl
  refine lv_aload_n hx hb dd_Heap_make_0 rfl (lv_at hl 0 rfl) ?_
  refine gf_h_Heap_67_cells C hP dd_Heap_make_1 ?_
  refine gf_h_Heap_68_top C hP dd_Heap_make_4 ?_
  refine lv_iconst (v := 1) hx hb dd_Heap_make_7 (by decide) ?_
  refine lv_iadd hx hb dd_Heap_make_8 ?_
  refine lv_i2l hx hb dd_Heap_make_9 rfl ?_
  refine lv_lload_n hx hb dd_Heap_make_10 rfl (lv_at hl 2 rfl) ?_
  refine lv_ladd hx hb dd_Heap_make_11 ?_
  refine lv_ldc2 (v := 2000) hx hb C.1.2.2.2.1 (C.1.2.2.2.2 _ (xk_c7 (w := Jvm.Cond.constantLong "ModuleHouse$Heap" 50 2000) 92 rfl rfl)) dd_Heap_make_12 ?_
  refine xr_lc_le (tgt := 41) hx hb dd_Heap_make_15 dd_Heap_make_16 (by decide) (fun hc => ?_) (fun hc => ?_)
  · have h := xp_t hc h
    exact wj_Heap_make_41 htr C hne h hP hS (lv_sub hl [0, 1, 2] rfl)
  · have h := xp_f hc h
    refine lv_aload_n hx hb dd_Heap_make_19 rfl (lv_at hl 0 rfl) ?_
    refine lv_aload hx hb dd_Heap_make_20 (lv_at hl 3 rfl) ?_
    refine lv_aload hx hb dd_Heap_make_22 (lv_at hl 4 rfl) ?_
    obtain ⟨a8, u9, hq, h⟩ := xp_seq h
    refine xk_goesI (xr_V (As := [.ref (ad 61), .ref (ad 64)]) (rest := []) C hP hS (ct_Heap_collect htr hok hq) kq_Heap_52 67 3 rfl rfl ⟨rfl, rfl, Nat.le_of_ble_eq_true rfl, Nat.le_of_ble_eq_true rfl⟩ ⟨Nat.le_of_ble_eq_true rfl, Nat.le_of_ble_eq_true rfl⟩ hl.1 rfl rfl (Nat.le_of_ble_eq_true rfl) dd_Heap_make_24) hS (fun H locs hP hS => ?_)
    clear hq
    refine lv_iconst (v := 1) hx hb dd_Heap_make_27 (by decide) ?_
    refine lv_iadd hx hb dd_Heap_make_28 ?_
    refine lv_i2l hx hb dd_Heap_make_29 rfl ?_
    refine lv_lload_n hx hb dd_Heap_make_30 rfl (lv_at hl 2 rfl) ?_
    refine lv_ladd hx hb dd_Heap_make_31 ?_
    refine lv_ldc2 (v := 2000) hx hb C.1.2.2.2.1 (C.1.2.2.2.2 _ (xk_c7 (w := Jvm.Cond.constantLong "ModuleHouse$Heap" 50 2000) 92 rfl rfl)) dd_Heap_make_32 ?_
    refine xr_lc_le (tgt := 41) hx hb dd_Heap_make_35 dd_Heap_make_36 (by decide) (fun hc => ?_) (fun hc => ?_)
    · have h := xp_t hc h
      exact wj_Heap_make_41 htr C hne h hP hS (lv_sub hl [0, 1, 2] rfl)
    · have h := xp_f hc h
      refine lv_iconst (v := 0) hx hb dd_Heap_make_39 (by decide) ?_
      obtain ⟨rfl, rfl⟩ := xp_r h
      exact xr_iret C hP hS dd_Heap_make_40
abbrev rm_Values_copy__h68_61 : Room := { frames := 1, cells := 1, slots := 6, locals := 0 }
noncomputable def fm_Values_copy__h68_61 (x1 : Int32) (x2 : Int32) (u : xk_St) : Option (Unit × xk_St) :=
  (if x1 < 0 ∨ 18000 ≤ x1.toNatClampNeg then none else if x2 < 0 ∨ 2000 ≤ x2.toNatClampNeg then none else xs_let (xs_B u 12 x2.toNatClampNeg (u.2.2.2 10 x1.toNatClampNeg)) fun u1 => if x1 < 0 ∨ 18000 ≤ x1.toNatClampNeg then none else if x2 < 0 ∨ 2000 ≤ x2.toNatClampNeg then none else xs_let (xs_A u1 39 x2.toNatClampNeg (vp_nar .boolean (u1.2.2.1 37 x1.toNatClampNeg))) fun u2 => some ((()), u2))
set_option maxHeartbeats 4000000 in
set_option maxRecDepth 100000 in
theorem ct_Values_copy__h68_61 {l : Launch} {D : va_G} {ad : Nat → Nat} {ca : Nat → ClassId} {ads : List Nat} (htr : l.stackTraces = false) (hok : xk_ok (kw_h ad ca) ads) {x1 : Int32} {x2 : Int32} {u u' : xk_St} {r : Unit} (h : fm_Values_copy__h68_61 x1 x2 u = some (r, u')) :
    ∀ sz, xk_Met l ⟨"ModuleHouse$Values", "copy", "(LModuleHouse$Values;II)V"⟩ (Cond.code ⟨"ModuleHouse$Values", "copy", "(LModuleHouse$Values;II)V"⟩ prog_12_method_6_code 4 none :: xk_gd) rm_Values_copy__h68_61 (xk_Pc D kx_cl (kx_ty ca) (kw_h ad ca) ads xk_F sz [.ref (ad 68), .ref (ad 61), .int x1, .int x2] u) (xk_Qc D kx_cl (kw_h ad ca) ads (xo_v (.inl r)) u') (xk_A ads sz) := by
  unfold fm_Values_copy__h68_61 at h
  refine xk_con (by decide) htr hok (Nat.le_of_ble_eq_true rfl) (fun p e s m below meth c ls C hne hl hP => ?_)
  have hx := C.1.1
  have hb := C.1.2.1
  have hS : va_S (xk_A ads s.heap.size) s.heap s.heap [] := va_S.rf
  have hl : lv_has ls 4 [(0, .ref (ad 68)), (1, .ref (ad 61)), (2, .int x1), (3, .int x2)] := hl
  refine lv_aload_n hx hb dd_Values_copy_0 rfl (lv_at hl 0 rfl) ?_
  refine gf_h_Values_68_value C hP dd_Values_copy_1 ?_
  refine lv_iload_n hx hb dd_Values_copy_4 rfl (lv_at hl 3 rfl) ?_
  refine lv_aload_n hx hb dd_Values_copy_5 rfl (lv_at hl 1 rfl) ?_
  refine gf_h_Values_61_value C hP dd_Values_copy_6 ?_
  refine lv_iload_n hx hb dd_Values_copy_9 rfl (lv_at hl 2 rfl) ?_
  obtain ⟨hi, h⟩ := xp_g h
  refine al_h_62 C hP hi dd_Values_copy_10 ?_
  obtain ⟨hi, h⟩ := xp_g h
  refine as_h_69 C hP hS hi dd_Values_copy_11 (fun H locs hP hS => ?_)
  obtain ⟨u1, eu1, h⟩ := xp_let h
  rw [← eu1] at hP
  refine lv_aload_n hx hb dd_Values_copy_12 rfl (lv_at hl 0 rfl) ?_
  refine gf_h_Values_68_refers C hP dd_Values_copy_13 ?_
  refine lv_iload_n hx hb dd_Values_copy_16 rfl (lv_at hl 3 rfl) ?_
  refine lv_aload_n hx hb dd_Values_copy_17 rfl (lv_at hl 1 rfl) ?_
  refine gf_h_Values_61_refers C hP dd_Values_copy_18 ?_
  refine lv_iload_n hx hb dd_Values_copy_21 rfl (lv_at hl 2 rfl) ?_
  obtain ⟨hi, h⟩ := xp_g h
  refine al_h_63 C hP hi dd_Values_copy_22 ?_
  obtain ⟨hi, h⟩ := xp_g h
  refine as_h_70 C hP hS hi dd_Values_copy_23 (fun H locs hP hS => ?_)
  obtain ⟨u2, eu2, h⟩ := xp_let h
  rw [← eu2] at hP
  obtain ⟨rfl, rfl⟩ := xp_r h
  exact xr_vret C hP hS dd_Values_copy_24
abbrev rm_Machine_setCell : Room := { frames := 2, cells := 1, slots := 6, locals := 23 }
noncomputable def fm_Machine_setCell (x0 : Int32) (x1 : Int32) (x2 : Int32) (u : xk_St) : Option (Unit × xk_St) :=
  (xs_seq (fm_Values_copy__h68_61 x2 x0 u) fun _ u1 => if x1 = (3 : Int32) then ((if x0 < 0 ∨ 2000 ≤ x0.toNatClampNeg then none else if x0 < 0 ∨ 2000 ≤ x0.toNatClampNeg then none else xs_let (xs_B u1 12 x0.toNatClampNeg ((u1.2.2.2 12 x0.toNatClampNeg) &&& (255 : Int64))) fun u3 => some ((()), u3))) else (if x1 = (4 : Int32) then ((if x0 < 0 ∨ 2000 ≤ x0.toNatClampNeg then none else if x0 < 0 ∨ 2000 ≤ x0.toNatClampNeg then none else xs_let (xs_B u1 12 x0.toNatClampNeg ((u1.2.2.2 12 x0.toNatClampNeg) &&& (65535 : Int64))) fun u2 => some ((()), u2))) else (some ((()), u1))))
set_option maxHeartbeats 4000000 in
set_option maxRecDepth 100000 in
theorem ct_Machine_setCell {l : Launch} {D : va_G} {ad : Nat → Nat} {ca : Nat → ClassId} {ads : List Nat} (htr : l.stackTraces = false) (hok : xk_ok (kw_h ad ca) ads) {x0 : Int32} {x1 : Int32} {x2 : Int32} {u u' : xk_St} {r : Unit} (h : fm_Machine_setCell x0 x1 x2 u = some (r, u')) :
    ∀ sz, xk_Met l ⟨"ModuleHouse$Machine", "setCell", "(III)V"⟩ (Cond.code ⟨"ModuleHouse$Machine", "setCell", "(III)V"⟩ prog_5_method_21_code 4 none :: xk_gd) rm_Machine_setCell (xk_Pc D kx_cl (kx_ty ca) (kw_h ad ca) ads xk_F sz [.ref (ad 60), .int x0, .int x1, .int x2] u) (xk_Qc D kx_cl (kw_h ad ca) ads (xo_v (.inl r)) u') (xk_A ads sz) := by
  unfold fm_Machine_setCell at h
  refine xk_con (by decide) htr hok (Nat.le_of_ble_eq_true rfl) (fun p e s m below meth c ls C hne hl hP => ?_)
  have hx := C.1.1
  have hb := C.1.2.1
  have hS : va_S (xk_A ads s.heap.size) s.heap s.heap [] := va_S.rf
  have hl : lv_has ls 4 [(0, .ref (ad 60)), (1, .int x0), (2, .int x1), (3, .int x2)] := hl
  refine lv_aload_n hx hb dd_Machine_setCell_0 rfl (lv_at hl 0 rfl) ?_
  refine gf_h_Machine_60_heap C hP dd_Machine_setCell_1 ?_
  refine gf_h_Machine_67_cells C hP dd_Machine_setCell_4 ?_
  refine lv_aload_n hx hb dd_Machine_setCell_7 rfl (lv_at hl 0 rfl) ?_
  refine gf_h_Machine_60_values C hP dd_Machine_setCell_8 ?_
  refine lv_iload_n hx hb dd_Machine_setCell_11 rfl (lv_at hl 3 rfl) ?_
  refine lv_iload_n hx hb dd_Machine_setCell_12 rfl (lv_at hl 1 rfl) ?_
  obtain ⟨rx, u1, hq, h⟩ := xp_seq h
  refine xk_goesV (xr_V (As := [.ref (ad 61), .int x2, .int x0]) (rest := []) C hP hS (ct_Values_copy__h68_61 htr hok hq) kq_Machine_270 68 10 rfl rfl ⟨rfl, rfl, Nat.le_of_ble_eq_true rfl, Nat.le_of_ble_eq_true rfl⟩ ⟨Nat.le_of_ble_eq_true rfl, Nat.le_of_ble_eq_true rfl⟩ hl.1 rfl rfl (Nat.le_of_ble_eq_true rfl) dd_Machine_setCell_13) hS (fun H locs hP hS => ?_)
  clear hq
  refine lv_iload_n hx hb dd_Machine_setCell_16 rfl (lv_at hl 2 rfl) ?_
  refine lv_iconst (v := 3) hx hb dd_Machine_setCell_17 (by decide) ?_
  refine lv_icmp_ne (tgt := 42) hx hb dd_Machine_setCell_18 (by decide) (fun hc => ?_) (fun hc => ?_)
  · have h := xp_f hc h
    refine lv_iload_n hx hb dd_Machine_setCell_42 rfl (lv_at hl 2 rfl) ?_
    refine lv_iconst (v := 4) hx hb dd_Machine_setCell_43 (by decide) ?_
    refine lv_icmp_ne (tgt := 65) hx hb dd_Machine_setCell_44 (by decide) (fun hc => ?_) (fun hc => ?_)
    · have h := xp_f hc h
      obtain ⟨rfl, rfl⟩ := xp_r h
      exact xr_vret C hP hS dd_Machine_setCell_65
    · have h := xp_t hc h
      refine lv_aload_n hx hb dd_Machine_setCell_47 rfl (lv_at hl 0 rfl) ?_
      refine gf_h_Machine_60_heap C hP dd_Machine_setCell_48 ?_
      refine gf_h_Machine_67_cells C hP dd_Machine_setCell_51 ?_
      refine gf_h_Machine_68_value C hP dd_Machine_setCell_54 ?_
      refine lv_iload_n hx hb dd_Machine_setCell_57 rfl (lv_at hl 1 rfl) ?_
      refine lv_dup2_11 hx hb dd_Machine_setCell_58 rfl rfl ?_
      obtain ⟨hi, h⟩ := xp_g h
      refine al_h_69 C hP hi dd_Machine_setCell_59 ?_
      refine lv_ldc2 (v := 65535) hx hb C.1.2.2.2.1 (C.1.2.2.2.2 _ (xk_c7 (w := Jvm.Cond.constantLong "ModuleHouse$Machine" 349 65535) 119 rfl rfl)) dd_Machine_setCell_60 ?_
      refine lv_land hx hb dd_Machine_setCell_63 ?_
      obtain ⟨hi, h⟩ := xp_g h
      refine as_h_69 C hP hS hi dd_Machine_setCell_64 (fun H locs hP hS => ?_)
      obtain ⟨u2, eu2, h⟩ := xp_let h
      rw [← eu2] at hP
      obtain ⟨rfl, rfl⟩ := xp_r h
      exact xr_vret C hP hS dd_Machine_setCell_65
  · have h := xp_t hc h
    refine lv_aload_n hx hb dd_Machine_setCell_21 rfl (lv_at hl 0 rfl) ?_
    refine gf_h_Machine_60_heap C hP dd_Machine_setCell_22 ?_
    refine gf_h_Machine_67_cells C hP dd_Machine_setCell_25 ?_
    refine gf_h_Machine_68_value C hP dd_Machine_setCell_28 ?_
    refine lv_iload_n hx hb dd_Machine_setCell_31 rfl (lv_at hl 1 rfl) ?_
    refine lv_dup2_11 hx hb dd_Machine_setCell_32 rfl rfl ?_
    obtain ⟨hi, h⟩ := xp_g h
    refine al_h_69 C hP hi dd_Machine_setCell_33 ?_
    refine lv_ldc2 (v := 255) hx hb C.1.2.2.2.1 (C.1.2.2.2.2 _ (xk_c7 (w := Jvm.Cond.constantLong "ModuleHouse$Machine" 347 255) 118 rfl rfl)) dd_Machine_setCell_34 ?_
    refine lv_land hx hb dd_Machine_setCell_37 ?_
    obtain ⟨hi, h⟩ := xp_g h
    refine as_h_69 C hP hS hi dd_Machine_setCell_38 (fun H locs hP hS => ?_)
    obtain ⟨u3, eu3, h⟩ := xp_let h
    rw [← eu3] at hP
    refine lv_goto (tgt := 65) hx hb dd_Machine_setCell_39 (by decide) ?_
    obtain ⟨rfl, rfl⟩ := xp_r h
    exact xr_vret C hP hS dd_Machine_setCell_65
abbrev rm_Machine_makeArray : Room := { frames := 10, cells := 1, slots := 6, locals := 195 }
noncomputable def jb_Machine_makeArray_139 (fu : Nat) (b5 : Int32) (u : xk_St) : Option (Unit × xk_St) :=
  (xs_seq (fm_Values_pushReference__h61 (b5.toInt64) u) fun _ u5 => some ((()), u5))
noncomputable def jb_Machine_makeArray_94 (fu : Nat) : Nat → Int32 → Int64 → Int32 → Int32 → xk_St → Option (Unit × xk_St)
  | 0 => fun _ _ _ _ _ => none
  | n + 1 => fun b1 b3 b5 b6 u =>
    xs_let (jb_Machine_makeArray_94 fu  n) fun k94 =>
    if b3 ≤ (b6.toInt64) then (jb_Machine_makeArray_139 fu b5 u) else ((xs_seq (fm_Heap_cellOf b5 b6 u) fun a7 u8 => xs_seq (fm_Types_member b1 (0 : Int32) u8) fun a9 u10 => xs_seq (fm_Machine_setCell a7 a9 (u10.1 28) u10) fun _ u11 => xs_let (b6 + (1 : Int32)) fun a12 => k94 b1 b3 b5 a12 u11))
noncomputable def fm_Machine_makeArray (fu : Nat) (x0 : Int32) (x1 : Int32) (u : xk_St) : Option (Unit × xk_St) :=
  (if ((u.1 28) - (1 : Int32)) < 0 ∨ 18000 ≤ ((u.1 28) - (1 : Int32)).toNatClampNeg then none else xs_let ((u.2.2.2 10 ((u.1 28) - (1 : Int32)).toNatClampNeg) &&& (4294967295 : Int64)) fun a1 => if x0 < 0 ∨ 65 ≤ x0.toNatClampNeg then none else xs_seq (fm_Heap_make fu (u.2.2.1 5 x0.toNatClampNeg) a1 u) fun a2 u3 => if a2 = (0 : Int32) then ((xs_let (xs_I u3 27 (11 : Int32)) fun u13 => some ((()), u13))) else ((xs_let (xs_I u3 28 ((u3.1 28) - (1 : Int32))) fun u4 => if x1 = (0 : Int32) then (jb_Machine_makeArray_139 fu a2 u4) else ((xs_let (xs_I u4 28 ((u4.1 28) - (1 : Int32))) fun u6 => jb_Machine_makeArray_94 fu fu x0 a1 a2 (0 : Int32) u6)))))
set_option maxHeartbeats 4000000 in
set_option maxRecDepth 100000 in
theorem wj_Machine_makeArray_139 {p : Program} {l : Launch} {e : Env} {s : State} {m : MethodId} {args : Array Value} {below : List Frame} {meth : Method} {c : Code} {D : va_G} {ad : Nat → Nat} {ca : Nat → ClassId} {ads : List Nat} {fu : Nat} (htr : l.stackTraces = false) (C : xk_C D kx_cl (kx_ty ca) (kw_h ad ca) ads "ModuleHouse$Machine" prog_5_method_26_code 7 none p e s m args meth c) (hne : c.exceptionTable.isEmpty = true) {u' : xk_St} {r : Unit} {b5 : Int32} {u : xk_St} {H : Heap} {locs : List Loc} {ls : Array Slot} (h : jb_Machine_makeArray_139 fu  b5 u = some (r, u')) (hP : va_P D kx_cl (kw_h ad ca u) H) (hS : va_S (xk_A ads s.heap.size) s.heap H locs) (hl : lv_has ls 7 [(0, .ref (ad 60)), (5, .int b5)]) : W p l e rm_Machine_makeArray s m args below meth c H locs 0 0 (xk_MQ below (xk_Qc D kx_cl (kw_h ad ca) ads (xo_v (.inl r)) u') args s (xk_A ads s.heap.size)) (F0 m 139 ls []) := by
  have hx := C.1.1
  have hb := C.1.2.1
  have hok := C.2.2.1
  unfold jb_Machine_makeArray_139 at h
  refine lv_aload_n hx hb dd_Machine_makeArray_139 rfl (lv_at hl 0 rfl) ?_
  refine gf_h_Machine_60_values C hP dd_Machine_makeArray_140 ?_
  refine lv_iload hx hb dd_Machine_makeArray_143 (lv_at hl 1 rfl) ?_
  refine lv_i2l hx hb dd_Machine_makeArray_145 rfl ?_
  obtain ⟨rx, u5, hq, h⟩ := xp_seq h
  refine xk_goesV (xr_V (As := [.long (b5.toInt64)]) (rest := []) C hP hS (ct_Values_pushReference__h61 htr hok hq) kq_Machine_91 61 10 rfl rfl ⟨rfl, rfl, Nat.le_of_ble_eq_true rfl, Nat.le_of_ble_eq_true rfl⟩ ⟨Nat.le_of_ble_eq_true rfl, Nat.le_of_ble_eq_true rfl⟩ hl.1 rfl rfl (Nat.le_of_ble_eq_true rfl) dd_Machine_makeArray_146) hS (fun H locs hP hS => ?_)
  clear hq
  obtain ⟨rfl, rfl⟩ := xp_r h
  exact xr_vret C hP hS dd_Machine_makeArray_149
set_option maxHeartbeats 4000000 in
set_option maxRecDepth 100000 in
theorem wj_Machine_makeArray_94 {p : Program} {l : Launch} {e : Env} {s : State} {m : MethodId} {args : Array Value} {below : List Frame} {meth : Method} {c : Code} {D : va_G} {ad : Nat → Nat} {ca : Nat → ClassId} {ads : List Nat} {fu : Nat} (htr : l.stackTraces = false) (C : xk_C D kx_cl (kx_ty ca) (kw_h ad ca) ads "ModuleHouse$Machine" prog_5_method_26_code 7 none p e s m args meth c) (hne : c.exceptionTable.isEmpty = true) {u' : xk_St} {r : Unit} : ∀ {n : Nat} {b1 : Int32} {b3 : Int64} {b5 : Int32} {b6 : Int32} {u : xk_St} {H : Heap} {locs : List Loc} {ls : Array Slot} (h : jb_Machine_makeArray_94 fu  n b1 b3 b5 b6 u = some (r, u')) (hP : va_P D kx_cl (kw_h ad ca u) H) (hS : va_S (xk_A ads s.heap.size) s.heap H locs) (hl : lv_has ls 7 [(0, .ref (ad 60)), (1, .int b1), (3, .long b3), (5, .int b5), (6, .int b6)]), W p l e rm_Machine_makeArray s m args below meth c H locs 0 0 (xk_MQ below (xk_Qc D kx_cl (kw_h ad ca) ads (xo_v (.inl r)) u') args s (xk_A ads s.heap.size)) (F0 m 94 ls []) := by
  intro n
  have hx := C.1.1
  have hb := C.1.2.1
  have hok := C.2.2.1
  induction n with
  | zero =>
    intro _ _ _ _ u H locs ls h
    have h : none = some (r, u') := h
    cases h
  | succ n ih =>
    intro b1 b3 b5 b6 u H locs ls h hP hS hl
    unfold jb_Machine_makeArray_94 at h
    obtain ⟨k94, ek94, h⟩ := xp_let h
    have hk94 : ∀ (c0 : Int32) (c1 : Int64) (c2 : Int32) (c3 : Int32) (u : xk_St) (H : Heap) (locs : List Loc) (ls : Array Slot), k94 c0 c1 c2 c3 u = some (r, u') → va_P D kx_cl (kw_h ad ca u) H → va_S (xk_A ads s.heap.size) s.heap H locs → lv_has ls 7 [(0, .ref (ad 60)), (1, .int c0), (3, .long c1), (5, .int c2), (6, .int c3)] → W p l e rm_Machine_makeArray s m args below meth c H locs 0 0 (xk_MQ below (xk_Qc D kx_cl (kw_h ad ca) ads (xo_v (.inl r)) u') args s (xk_A ads s.heap.size)) (F0 m 94 ls []) := by
      intro c0 c1 c2 c3 u H locs ls h hP hS hl
      subst ek94
      exact ih h hP hS hl
    clear ih ek94
    refine lv_iload hx hb dd_Machine_makeArray_94 (lv_at hl 4 rfl) ?_
    refine lv_i2l hx hb dd_Machine_makeArray_96 rfl ?_
    refine lv_lload_n hx hb dd_Machine_makeArray_97 rfl (lv_at hl 2 rfl) ?_
    refine xr_lc_ge (tgt := 139) hx hb dd_Machine_makeArray_98 dd_Machine_makeArray_99 (by decide) (fun hc => ?_) (fun hc => ?_)
    · have h := xp_t hc h
      exact wj_Machine_makeArray_139 htr C hne h hP hS (lv_sub hl [0, 3] rfl)
    · have h := xp_f hc h
      refine lv_aload_n hx hb dd_Machine_makeArray_102 rfl (lv_at hl 0 rfl) ?_
      refine lv_aload_n hx hb dd_Machine_makeArray_103 rfl (lv_at hl 0 rfl) ?_
      refine gf_h_Machine_60_heap C hP dd_Machine_makeArray_104 ?_
      refine lv_iload hx hb dd_Machine_makeArray_107 (lv_at hl 3 rfl) ?_
      refine lv_iload hx hb dd_Machine_makeArray_109 (lv_at hl 4 rfl) ?_
      obtain ⟨a7, u8, hq, h⟩ := xp_seq h
      refine xk_goesI (xr_V (As := [.int b5, .int b6]) (rest := [.ref (ad 60)]) C hP hS (ct_Heap_cellOf htr hok hq) kq_Machine_355 67 3 rfl rfl ⟨rfl, rfl, Nat.le_of_ble_eq_true rfl, Nat.le_of_ble_eq_true rfl⟩ ⟨Nat.le_of_ble_eq_true rfl, Nat.le_of_ble_eq_true rfl⟩ hl.1 rfl rfl (Nat.le_of_ble_eq_true rfl) dd_Machine_makeArray_111) hS (fun H locs hP hS => ?_)
      clear hq
      refine lv_aload_n hx hb dd_Machine_makeArray_114 rfl (lv_at hl 0 rfl) ?_
      refine gf_h_Machine_60_types C hP dd_Machine_makeArray_115 ?_
      refine lv_iload_n hx hb dd_Machine_makeArray_118 rfl (lv_at hl 1 rfl) ?_
      refine lv_iconst (v := 0) hx hb dd_Machine_makeArray_119 (by decide) ?_
      obtain ⟨a9, u10, hq, h⟩ := xp_seq h
      refine xk_goesI (xr_V (As := [.int b1, .int (0 : Int32)]) (rest := [.int a7, .ref (ad 60)]) C hP hS (ct_Types_member htr hok hq) kq_Machine_358 6 9 rfl rfl ⟨rfl, rfl, Nat.le_of_ble_eq_true rfl, Nat.le_of_ble_eq_true rfl⟩ ⟨Nat.le_of_ble_eq_true rfl, Nat.le_of_ble_eq_true rfl⟩ hl.1 rfl rfl (Nat.le_of_ble_eq_true rfl) dd_Machine_makeArray_120) hS (fun H locs hP hS => ?_)
      clear hq
      refine lv_aload_n hx hb dd_Machine_makeArray_123 rfl (lv_at hl 0 rfl) ?_
      refine gf_h_Machine_60_values C hP dd_Machine_makeArray_124 ?_
      refine gf_h_Machine_61_top C hP dd_Machine_makeArray_127 ?_
      obtain ⟨rx, u11, hq, h⟩ := xp_seq h
      refine xk_goesV (xr_V (As := [.int a7, .int a9, .int (u10.1 28)]) (rest := []) C hP hS (ct_Machine_setCell htr hok hq) kq_Machine_361 60 4 rfl rfl ⟨rfl, rfl, Nat.le_of_ble_eq_true rfl, Nat.le_of_ble_eq_true rfl⟩ ⟨Nat.le_of_ble_eq_true rfl, Nat.le_of_ble_eq_true rfl⟩ hl.1 rfl rfl (Nat.le_of_ble_eq_true rfl) dd_Machine_makeArray_130) hS (fun H locs hP hS => ?_)
      clear hq
      obtain ⟨a12, ea12, h⟩ := xp_let h
      refine lv_iinc (v := a12) (lv' := [(6, .int a12), (0, .ref (ad 60)), (1, .int b1), (3, .long b3), (5, .int b5)]) hx hb dd_Machine_makeArray_133 hl (k := 4) rfl (by rw [ea12]; first | rfl | decide) (by decide) rfl (fun ls hl => ?_)
      refine lv_goto (tgt := 94) hx hb dd_Machine_makeArray_136 (by decide) ?_
      exact hk94 b1 b3 b5 a12 u11 _ _ _ h hP hS (lv_sub hl [1, 2, 3, 4, 0] rfl)
set_option maxHeartbeats 4000000 in
set_option maxRecDepth 100000 in
theorem ct_Machine_makeArray {l : Launch} {D : va_G} {ad : Nat → Nat} {ca : Nat → ClassId} {ads : List Nat} (htr : l.stackTraces = false) (hok : xk_ok (kw_h ad ca) ads) {fu : Nat} {x0 : Int32} {x1 : Int32} {u u' : xk_St} {r : Unit} (h : fm_Machine_makeArray fu x0 x1 u = some (r, u')) :
    ∀ sz, xk_Met l ⟨"ModuleHouse$Machine", "makeArray", "(IZ)V"⟩ (Cond.code ⟨"ModuleHouse$Machine", "makeArray", "(IZ)V"⟩ prog_5_method_26_code 7 none :: xk_gd) rm_Machine_makeArray (xk_Pc D kx_cl (kx_ty ca) (kw_h ad ca) ads xk_F sz [.ref (ad 60), .int x0, .int x1] u) (xk_Qc D kx_cl (kw_h ad ca) ads (xo_v (.inl r)) u') (xk_A ads sz) := by
  unfold fm_Machine_makeArray at h
  refine xk_con (by decide) htr hok (Nat.le_of_ble_eq_true rfl) (fun p e s m below meth c ls C hne hl hP => ?_)
  have hx := C.1.1
  have hb := C.1.2.1
  have hS : va_S (xk_A ads s.heap.size) s.heap s.heap [] := va_S.rf
  have hl : lv_has ls 7 [(0, .ref (ad 60)), (1, .int x0), (2, .int x1)] := hl
  refine lv_aload_n hx hb dd_Machine_makeArray_0 rfl (lv_at hl 0 rfl) ?_
  refine gf_h_Machine_60_values C hP dd_Machine_makeArray_1 ?_
  refine gf_h_Machine_61_value C hP dd_Machine_makeArray_4 ?_
  refine lv_aload_n hx hb dd_Machine_makeArray_7 rfl (lv_at hl 0 rfl) ?_
  refine gf_h_Machine_60_values C hP dd_Machine_makeArray_8 ?_
  refine gf_h_Machine_61_top C hP dd_Machine_makeArray_11 ?_
  refine lv_iconst (v := 1) hx hb dd_Machine_makeArray_14 (by decide) ?_
  refine lv_isub hx hb dd_Machine_makeArray_15 ?_
  obtain ⟨hi, h⟩ := xp_g h
  refine al_h_62 C hP hi dd_Machine_makeArray_16 ?_
  refine lv_ldc2 (v := 4294967295) hx hb C.1.2.2.2.1 (C.1.2.2.2.2 _ (xk_c6 (w := Jvm.Cond.constantLong "ModuleHouse$Machine" 255 4294967295) 215 rfl rfl)) dd_Machine_makeArray_17 ?_
  refine lv_land hx hb dd_Machine_makeArray_20 ?_
  obtain ⟨a1, ea1, h⟩ := xp_let h
  refine xr_naml ea1 ?_
  refine lv_lstore_n (lv' := [(3, .long a1), (0, .ref (ad 60)), (1, .int x0), (2, .int x1)]) hx hb dd_Machine_makeArray_21 rfl hl (by decide) rfl (fun ls hl => ?_)
  refine lv_aload_n hx hb dd_Machine_makeArray_22 rfl (lv_at hl 1 rfl) ?_
  refine gf_h_Machine_60_heap C hP dd_Machine_makeArray_23 ?_
  refine lv_aload_n hx hb dd_Machine_makeArray_26 rfl (lv_at hl 1 rfl) ?_
  refine gf_h_Machine_60_types C hP dd_Machine_makeArray_27 ?_
  refine gf_h_Machine_6_like C hP dd_Machine_makeArray_30 ?_
  refine lv_iload_n hx hb dd_Machine_makeArray_33 rfl (lv_at hl 2 rfl) ?_
  obtain ⟨hi, h⟩ := xp_g h
  refine al_h_10 C hP hi dd_Machine_makeArray_34 ?_
  refine lv_lload_n hx hb dd_Machine_makeArray_35 rfl (lv_at hl 0 rfl) ?_
  refine lv_aload_n hx hb dd_Machine_makeArray_36 rfl (lv_at hl 1 rfl) ?_
  refine gf_h_Machine_60_values C hP dd_Machine_makeArray_37 ?_
  refine lv_aload_n hx hb dd_Machine_makeArray_40 rfl (lv_at hl 1 rfl) ?_
  refine gf_h_Machine_60_globals C hP dd_Machine_makeArray_41 ?_
  obtain ⟨a2, u3, hq, h⟩ := xp_seq h
  refine xk_goesI (xr_V (As := [.int (u.2.2.1 5 x0.toNatClampNeg), .long a1, .ref (ad 61), .ref (ad 64)]) (rest := []) C hP hS (ct_Heap_make htr hok hq) kq_Machine_367 67 3 rfl rfl ⟨rfl, rfl, Nat.le_of_ble_eq_true rfl, Nat.le_of_ble_eq_true rfl⟩ ⟨Nat.le_of_ble_eq_true rfl, Nat.le_of_ble_eq_true rfl⟩ hl.1 rfl rfl (Nat.le_of_ble_eq_true rfl) dd_Machine_makeArray_44) hS (fun H locs hP hS => ?_)
  clear hq
  refine lv_istore (lv' := [(5, .int a2), (3, .long a1), (0, .ref (ad 60)), (1, .int x0), (2, .int x1)]) hx hb dd_Machine_makeArray_47 hl (by decide) rfl (fun ls hl => ?_)
  refine lv_iload hx hb dd_Machine_makeArray_49 (lv_at hl 0 rfl) ?_
  refine lv_if_ne (tgt := 61) hx hb dd_Machine_makeArray_51 (by decide) (fun hc => ?_) (fun hc => ?_)
  · have h := xp_f hc h
    refine lv_aload_n hx hb dd_Machine_makeArray_61 rfl (lv_at hl 2 rfl) ?_
    refine gf_h_Machine_60_values C hP dd_Machine_makeArray_62 ?_
    refine lv_dup hx hb dd_Machine_makeArray_65 rfl ?_
    refine gf_h_Machine_61_top C hP dd_Machine_makeArray_66 ?_
    refine lv_iconst (v := 1) hx hb dd_Machine_makeArray_69 (by decide) ?_
    refine lv_isub hx hb dd_Machine_makeArray_70 ?_
    refine pf_h_Machine_61_top C hP hS dd_Machine_makeArray_71 (fun H locs hP hS => ?_)
    obtain ⟨u4, eu4, h⟩ := xp_let h
    rw [← eu4] at hP
    refine lv_iload_n hx hb dd_Machine_makeArray_74 rfl (lv_at hl 4 rfl) ?_
    refine lv_if_eq (tgt := 139) hx hb dd_Machine_makeArray_75 (by decide) (fun hc => ?_) (fun hc => ?_)
    · have h := xp_t hc h
      exact wj_Machine_makeArray_139 htr C hne h hP hS (lv_sub hl [2, 0] rfl)
    · have h := xp_f hc h
      refine lv_aload_n hx hb dd_Machine_makeArray_78 rfl (lv_at hl 2 rfl) ?_
      refine gf_h_Machine_60_values C hP dd_Machine_makeArray_79 ?_
      refine lv_dup hx hb dd_Machine_makeArray_82 rfl ?_
      refine gf_h_Machine_61_top C hP dd_Machine_makeArray_83 ?_
      refine lv_iconst (v := 1) hx hb dd_Machine_makeArray_86 (by decide) ?_
      refine lv_isub hx hb dd_Machine_makeArray_87 ?_
      refine pf_h_Machine_61_top C hP hS dd_Machine_makeArray_88 (fun H locs hP hS => ?_)
      obtain ⟨u6, eu6, h⟩ := xp_let h
      rw [← eu6] at hP
      refine lv_iconst (v := 0) hx hb dd_Machine_makeArray_91 (by decide) ?_
      refine lv_istore (lv' := [(6, .int (0 : Int32)), (5, .int a2), (3, .long a1), (0, .ref (ad 60)), (1, .int x0), (2, .int x1)]) hx hb dd_Machine_makeArray_92 hl (by decide) rfl (fun ls hl => ?_)
      exact wj_Machine_makeArray_94 htr C hne h hP hS (lv_sub hl [3, 4, 2, 1, 0] rfl)
  · have h := xp_t hc h
    refine lv_aload_n hx hb dd_Machine_makeArray_54 rfl (lv_at hl 2 rfl) ?_
    refine lv_bipush (v := 11) hx hb dd_Machine_makeArray_55 (by decide) ?_
    refine pf_h_Machine_60_trap C hP hS dd_Machine_makeArray_57 (fun H locs hP hS => ?_)
    obtain ⟨u13, eu13, h⟩ := xp_let h
    rw [← eu13] at hP
    obtain ⟨rfl, rfl⟩ := xp_r h
    exact xr_vret C hP hS dd_Machine_makeArray_60
abbrev rm_Machine_makeArrayOf : Room := { frames := 10, cells := 1, slots := 6, locals := 195 }
noncomputable def jb_Machine_makeArrayOf_54 (fu : Nat) : Nat → Int32 → Int32 → Int32 → Int32 → xk_St → Option (Unit × xk_St)
  | 0 => fun _ _ _ _ _ => none
  | n + 1 => fun b1 b2 b3 b4 u =>
    xs_let (jb_Machine_makeArrayOf_54 fu  n) fun k54 =>
    if b2 ≤ b4 then ((xs_seq (fm_Values_pushReference__h61 (b3.toInt64) u) fun _ u4 => some ((()), u4))) else ((xs_seq (fm_Heap_cellOf b3 b4 u) fun a5 u6 => xs_seq (fm_Types_member b1 (0 : Int32) u6) fun a7 u8 => xs_seq (fm_Machine_setCell a5 a7 ((u8.1 28) + b4) u8) fun _ u9 => xs_let (b4 + (1 : Int32)) fun a10 => k54 b1 b2 b3 a10 u9))
noncomputable def fm_Machine_makeArrayOf (fu : Nat) (x0 : Int32) (x1 : Int32) (u : xk_St) : Option (Unit × xk_St) :=
  (if x0 < 0 ∨ 65 ≤ x0.toNatClampNeg then none else xs_seq (fm_Heap_make fu (u.2.2.1 5 x0.toNatClampNeg) (x1.toInt64) u) fun a1 u2 => if a1 = (0 : Int32) then ((xs_let (xs_I u2 27 (11 : Int32)) fun u11 => some ((()), u11))) else ((xs_let (xs_I u2 28 ((u2.1 28) - x1)) fun u3 => jb_Machine_makeArrayOf_54 fu fu x0 x1 a1 (0 : Int32) u3)))
set_option maxHeartbeats 4000000 in
set_option maxRecDepth 100000 in
theorem wj_Machine_makeArrayOf_54 {p : Program} {l : Launch} {e : Env} {s : State} {m : MethodId} {args : Array Value} {below : List Frame} {meth : Method} {c : Code} {D : va_G} {ad : Nat → Nat} {ca : Nat → ClassId} {ads : List Nat} {fu : Nat} (htr : l.stackTraces = false) (C : xk_C D kx_cl (kx_ty ca) (kw_h ad ca) ads "ModuleHouse$Machine" prog_5_method_27_code 5 none p e s m args meth c) (hne : c.exceptionTable.isEmpty = true) {u' : xk_St} {r : Unit} : ∀ {n : Nat} {b1 : Int32} {b2 : Int32} {b3 : Int32} {b4 : Int32} {u : xk_St} {H : Heap} {locs : List Loc} {ls : Array Slot} (h : jb_Machine_makeArrayOf_54 fu  n b1 b2 b3 b4 u = some (r, u')) (hP : va_P D kx_cl (kw_h ad ca u) H) (hS : va_S (xk_A ads s.heap.size) s.heap H locs) (hl : lv_has ls 5 [(0, .ref (ad 60)), (1, .int b1), (2, .int b2), (3, .int b3), (4, .int b4)]), W p l e rm_Machine_makeArrayOf s m args below meth c H locs 0 0 (xk_MQ below (xk_Qc D kx_cl (kw_h ad ca) ads (xo_v (.inl r)) u') args s (xk_A ads s.heap.size)) (F0 m 54 ls []) := by
  intro n
  have hx := C.1.1
  have hb := C.1.2.1
  have hok := C.2.2.1
  induction n with
  | zero =>
    intro _ _ _ _ u H locs ls h
    have h : none = some (r, u') := h
    cases h
  | succ n ih =>
    intro b1 b2 b3 b4 u H locs ls h hP hS hl
    unfold jb_Machine_makeArrayOf_54 at h
    obtain ⟨k54, ek54, h⟩ := xp_let h
    have hk54 : ∀ (c0 : Int32) (c1 : Int32) (c2 : Int32) (c3 : Int32) (u : xk_St) (H : Heap) (locs : List Loc) (ls : Array Slot), k54 c0 c1 c2 c3 u = some (r, u') → va_P D kx_cl (kw_h ad ca u) H → va_S (xk_A ads s.heap.size) s.heap H locs → lv_has ls 5 [(0, .ref (ad 60)), (1, .int c0), (2, .int c1), (3, .int c2), (4, .int c3)] → W p l e rm_Machine_makeArrayOf s m args below meth c H locs 0 0 (xk_MQ below (xk_Qc D kx_cl (kw_h ad ca) ads (xo_v (.inl r)) u') args s (xk_A ads s.heap.size)) (F0 m 54 ls []) := by
      intro c0 c1 c2 c3 u H locs ls h hP hS hl
      subst ek54
      exact ih h hP hS hl
    clear ih ek54
    refine lv_iload hx hb dd_Machine_makeArrayOf_54 (lv_at hl 4 rfl) ?_
    refine lv_iload_n hx hb dd_Machine_makeArrayOf_56 rfl (lv_at hl 2 rfl) ?_
    refine lv_icmp_ge (tgt := 99) hx hb dd_Machine_makeArrayOf_57 (by decide) (fun hc => ?_) (fun hc => ?_)
    · have h := xp_t hc h
      refine lv_aload_n hx hb dd_Machine_makeArrayOf_99 rfl (lv_at hl 0 rfl) ?_
      refine gf_h_Machine_60_values C hP dd_Machine_makeArrayOf_100 ?_
      refine lv_iload_n hx hb dd_Machine_makeArrayOf_103 rfl (lv_at hl 3 rfl) ?_
      refine lv_i2l hx hb dd_Machine_makeArrayOf_104 rfl ?_
      obtain ⟨rx, u4, hq, h⟩ := xp_seq h
      refine xk_goesV (xr_V (As := [.long (b3.toInt64)]) (rest := []) C hP hS (ct_Values_pushReference__h61 htr hok hq) kq_Machine_91 61 10 rfl rfl ⟨rfl, rfl, Nat.le_of_ble_eq_true rfl, Nat.le_of_ble_eq_true rfl⟩ ⟨Nat.le_of_ble_eq_true rfl, Nat.le_of_ble_eq_true rfl⟩ hl.1 rfl rfl (Nat.le_of_ble_eq_true rfl) dd_Machine_makeArrayOf_105) hS (fun H locs hP hS => ?_)
      clear hq
      obtain ⟨rfl, rfl⟩ := xp_r h
      exact xr_vret C hP hS dd_Machine_makeArrayOf_108
    · have h := xp_f hc h
      refine lv_aload_n hx hb dd_Machine_makeArrayOf_60 rfl (lv_at hl 0 rfl) ?_
      refine lv_aload_n hx hb dd_Machine_makeArrayOf_61 rfl (lv_at hl 0 rfl) ?_
      refine gf_h_Machine_60_heap C hP dd_Machine_makeArrayOf_62 ?_
      refine lv_iload_n hx hb dd_Machine_makeArrayOf_65 rfl (lv_at hl 3 rfl) ?_
      refine lv_iload hx hb dd_Machine_makeArrayOf_66 (lv_at hl 4 rfl) ?_
      obtain ⟨a5, u6, hq, h⟩ := xp_seq h
      refine xk_goesI (xr_V (As := [.int b3, .int b4]) (rest := [.ref (ad 60)]) C hP hS (ct_Heap_cellOf htr hok hq) kq_Machine_355 67 3 rfl rfl ⟨rfl, rfl, Nat.le_of_ble_eq_true rfl, Nat.le_of_ble_eq_true rfl⟩ ⟨Nat.le_of_ble_eq_true rfl, Nat.le_of_ble_eq_true rfl⟩ hl.1 rfl rfl (Nat.le_of_ble_eq_true rfl) dd_Machine_makeArrayOf_68) hS (fun H locs hP hS => ?_)
      clear hq
      refine lv_aload_n hx hb dd_Machine_makeArrayOf_71 rfl (lv_at hl 0 rfl) ?_
      refine gf_h_Machine_60_types C hP dd_Machine_makeArrayOf_72 ?_
      refine lv_iload_n hx hb dd_Machine_makeArrayOf_75 rfl (lv_at hl 1 rfl) ?_
      refine lv_iconst (v := 0) hx hb dd_Machine_makeArrayOf_76 (by decide) ?_
      obtain ⟨a7, u8, hq, h⟩ := xp_seq h
      refine xk_goesI (xr_V (As := [.int b1, .int (0 : Int32)]) (rest := [.int a5, .ref (ad 60)]) C hP hS (ct_Types_member htr hok hq) kq_Machine_358 6 9 rfl rfl ⟨rfl, rfl, Nat.le_of_ble_eq_true rfl, Nat.le_of_ble_eq_true rfl⟩ ⟨Nat.le_of_ble_eq_true rfl, Nat.le_of_ble_eq_true rfl⟩ hl.1 rfl rfl (Nat.le_of_ble_eq_true rfl) dd_Machine_makeArrayOf_77) hS (fun H locs hP hS => ?_)
      clear hq
      refine lv_aload_n hx hb dd_Machine_makeArrayOf_80 rfl (lv_at hl 0 rfl) ?_
      refine gf_h_Machine_60_values C hP dd_Machine_makeArrayOf_81 ?_
      refine gf_h_Machine_61_top C hP dd_Machine_makeArrayOf_84 ?_
      refine lv_iload hx hb dd_Machine_makeArrayOf_87 (lv_at hl 4 rfl) ?_
      refine lv_iadd hx hb dd_Machine_makeArrayOf_89 ?_
      obtain ⟨rx, u9, hq, h⟩ := xp_seq h
      refine xk_goesV (xr_V (As := [.int a5, .int a7, .int ((u8.1 28) + b4)]) (rest := []) C hP hS (ct_Machine_setCell htr hok hq) kq_Machine_361 60 4 rfl rfl ⟨rfl, rfl, Nat.le_of_ble_eq_true rfl, Nat.le_of_ble_eq_true rfl⟩ ⟨Nat.le_of_ble_eq_true rfl, Nat.le_of_ble_eq_true rfl⟩ hl.1 rfl rfl (Nat.le_of_ble_eq_true rfl) dd_Machine_makeArrayOf_90) hS (fun H locs hP hS => ?_)
      clear hq
      obtain ⟨a10, ea10, h⟩ := xp_let h
      refine lv_iinc (v := a10) (lv' := [(4, .int a10), (0, .ref (ad 60)), (1, .int b1), (2, .int b2), (3, .int b3)]) hx hb dd_Machine_makeArrayOf_93 hl (k := 4) rfl (by rw [ea10]; first | rfl | decide) (by decide) rfl (fun ls hl => ?_)
      refine lv_goto (tgt := 54) hx hb dd_Machine_makeArrayOf_96 (by decide) ?_
      exact hk54 b1 b2 b3 a10 u9 _ _ _ h hP hS (lv_sub hl [1, 2, 3, 4, 0] rfl)
set_option maxHeartbeats 4000000 in
set_option maxRecDepth 100000 in
theorem ct_Machine_makeArrayOf {l : Launch} {D : va_G} {ad : Nat → Nat} {ca : Nat → ClassId} {ads : List Nat} (htr : l.stackTraces = false) (hok : xk_ok (kw_h ad ca) ads) {fu : Nat} {x0 : Int32} {x1 : Int32} {u u' : xk_St} {r : Unit} (h : fm_Machine_makeArrayOf fu x0 x1 u = some (r, u')) :
    ∀ sz, xk_Met l ⟨"ModuleHouse$Machine", "makeArrayOf", "(II)V"⟩ (Cond.code ⟨"ModuleHouse$Machine", "makeArrayOf", "(II)V"⟩ prog_5_method_27_code 5 none :: xk_gd) rm_Machine_makeArrayOf (xk_Pc D kx_cl (kx_ty ca) (kw_h ad ca) ads xk_F sz [.ref (ad 60), .int x0, .int x1] u) (xk_Qc D kx_cl (kw_h ad ca) ads (xo_v (.inl r)) u') (xk_A ads sz) := by
  unfold fm_Machine_makeArrayOf at h
  refine xk_con (by decide) htr hok (Nat.le_of_ble_eq_true rfl) (fun p e s m below meth c ls C hne hl hP => ?_)
  have hx := C.1.1
  have hb := C.1.2.1
  have hS : va_S (xk_A ads s.heap.size) s.heap s.heap [] := va_S.rf
  have hl : lv_has ls 5 [(0, .ref (ad 60)), (1, .int x0), (2, .int x1)] := hl
  refine lv_aload_n hx hb dd_Machine_makeArrayOf_0 rfl (lv_at hl 0 rfl) ?_
  refine gf_h_Machine_60_heap C hP dd_Machine_makeArrayOf_1 ?_
  refine lv_aload_n hx hb dd_Machine_makeArrayOf_4 rfl (lv_at hl 0 rfl) ?_
  refine gf_h_Machine_60_types C hP dd_Machine_makeArrayOf_5 ?_
  refine gf_h_Machine_6_like C hP dd_Machine_makeArrayOf_8 ?_
  refine lv_iload_n hx hb dd_Machine_makeArrayOf_11 rfl (lv_at hl 1 rfl) ?_
  obtain ⟨hi, h⟩ := xp_g h
  refine al_h_10 C hP hi dd_Machine_makeArrayOf_12 ?_
  refine lv_iload_n hx hb dd_Machine_makeArrayOf_13 rfl (lv_at hl 2 rfl) ?_
  refine lv_i2l hx hb dd_Machine_makeArrayOf_14 rfl ?_
  refine lv_aload_n hx hb dd_Machine_makeArrayOf_15 rfl (lv_at hl 0 rfl) ?_
  refine gf_h_Machine_60_values C hP dd_Machine_makeArrayOf_16 ?_
  refine lv_aload_n hx hb dd_Machine_makeArrayOf_19 rfl (lv_at hl 0 rfl) ?_
  refine gf_h_Machine_60_globals C hP dd_Machine_makeArrayOf_20 ?_
  obtain ⟨a1, u2, hq, h⟩ := xp_seq h
  refine xk_goesI (xr_V (As := [.int (u.2.2.1 5 x0.toNatClampNeg), .long (x1.toInt64), .ref (ad 61), .ref (ad 64)]) (rest := []) C hP hS (ct_Heap_make htr hok hq) kq_Machine_367 67 3 rfl rfl ⟨rfl, rfl, Nat.le_of_ble_eq_true rfl, Nat.le_of_ble_eq_true rfl⟩ ⟨Nat.le_of_ble_eq_true rfl, Nat.le_of_ble_eq_true rfl⟩ hl.1 rfl rfl (Nat.le_of_ble_eq_true rfl) dd_Machine_makeArrayOf_23) hS (fun H locs hP hS => ?_)
  clear hq
  refine lv_istore_n (lv' := [(3, .int a1), (0, .ref (ad 60)), (1, .int x0), (2, .int x1)]) hx hb dd_Machine_makeArrayOf_26 rfl hl (by decide) rfl (fun ls hl => ?_)
  refine lv_iload_n hx hb dd_Machine_makeArrayOf_27 rfl (lv_at hl 0 rfl) ?_
  refine lv_if_ne (tgt := 38) hx hb dd_Machine_makeArrayOf_28 (by decide) (fun hc => ?_) (fun hc => ?_)
  · have h := xp_f hc h
    refine lv_aload_n hx hb dd_Machine_makeArrayOf_38 rfl (lv_at hl 1 rfl) ?_
    refine gf_h_Machine_60_values C hP dd_Machine_makeArrayOf_39 ?_
    refine lv_dup hx hb dd_Machine_makeArrayOf_42 rfl ?_
    refine gf_h_Machine_61_top C hP dd_Machine_makeArrayOf_43 ?_
    refine lv_iload_n hx hb dd_Machine_makeArrayOf_46 rfl (lv_at hl 3 rfl) ?_
    refine lv_isub hx hb dd_Machine_makeArrayOf_47 ?_
    refine pf_h_Machine_61_top C hP hS dd_Machine_makeArrayOf_48 (fun H locs hP hS => ?_)
    obtain ⟨u3, eu3, h⟩ := xp_let h
    rw [← eu3] at hP
    refine lv_iconst (v := 0) hx hb dd_Machine_makeArrayOf_51 (by decide) ?_
    refine lv_istore (lv' := [(4, .int (0 : Int32)), (3, .int a1), (0, .ref (ad 60)), (1, .int x0), (2, .int x1)]) hx hb dd_Machine_makeArrayOf_52 hl (by decide) rfl (fun ls hl => ?_)
    exact wj_Machine_makeArrayOf_54 htr C hne h hP hS (lv_sub hl [2, 3, 4, 1, 0] rfl)
  · have h := xp_t hc h
    refine lv_aload_n hx hb dd_Machine_makeArrayOf_31 rfl (lv_at hl 1 rfl) ?_
    refine lv_bipush (v := 11) hx hb dd_Machine_makeArrayOf_32 (by decide) ?_
    refine pf_h_Machine_60_trap C hP hS dd_Machine_makeArrayOf_34 (fun H locs hP hS => ?_)
    obtain ⟨u11, eu11, h⟩ := xp_let h
    rw [← eu11] at hP
    obtain ⟨rfl, rfl⟩ := xp_r h
    exact xr_vret C hP hS dd_Machine_makeArrayOf_37
abbrev rm_Machine_hasElements : Room := { frames := 1, cells := 1, slots := 6, locals := 0 }
noncomputable def jb_Machine_hasElements_64 (u : xk_St) : Option (Int32 × xk_St) :=
  if (u.1 27) = (0 : Int32) then (some ((1 : Int32), u)) else (some ((0 : Int32), u))
noncomputable def fm_Machine_hasElements (x0 : Int32) (x1 : Int64) (u : xk_St) : Option (Int32 × xk_St) :=
  (if x0 < 0 ∨ 18000 ≤ x0.toNatClampNeg then none else xs_let ((u.2.2.2 10 x0.toNatClampNeg).toInt32) fun a1 => if a1 = (0 : Int32) then ((xs_let (xs_I u 27 (8 : Int32)) fun u3 => jb_Machine_hasElements_64 u3)) else ((if (x0 + (1 : Int32)) < 0 ∨ 18000 ≤ (x0 + (1 : Int32)).toNatClampNeg then none else if a1 < 0 ∨ 2001 ≤ a1.toNatClampNeg then none else if (((u.2.2.2 10 (x0 + (1 : Int32)).toNatClampNeg) &&& (4294967295 : Int64)) + x1) ≤ ((u.2.2.1 41 a1.toNatClampNeg).toInt64) then (jb_Machine_hasElements_64 u) else ((xs_let (xs_I u 27 (10 : Int32)) fun u2 => jb_Machine_hasElements_64 u2)))))
set_option maxHeartbeats 4000000 in
set_option maxRecDepth 100000 in
theorem wj_Machine_hasElements_64 {p : Program} {l : Launch} {e : Env} {s : State} {m : MethodId} {args : Array Value} {below : List Frame} {meth : Method} {c : Code} {D : va_G} {ad : Nat → Nat} {ca : Nat → ClassId} {ads : List Nat} (htr : l.stackTraces = false) (C : xk_C D kx_cl (kx_ty ca) (kw_h ad ca) ads "ModuleHouse$Machine" prog_5_method_28_code 5 (some .boolean) p e s m args meth c) (hne : c.exceptionTable.isEmpty = true) {u' : xk_St} {r : Int32} {u : xk_St} {H : Heap} {locs : List Loc} {ls : Array Slot} (h : jb_Machine_hasElements_64   u = some (r, u')) (hP : va_P D kx_cl (kw_h ad ca u) H) (hS : va_S (xk_A ads s.heap.size) s.heap H locs) (hl : lv_has ls 5 [(0, .ref (ad 60))]) : W p l e rm_Machine_hasElements s m args below meth c H locs 0 0 (xk_MQ below (xk_Qc D kx_cl (kw_h ad ca) ads (xo_i (.inl r)) u') args s (xk_A ads s.heap.size)) (F0 m 64 ls []) := by
  have hx := C.1.1
  have hb := C.1.2.1
  have hok := C.2.2.1
  unfold jb_Machine_hasElements_64 at h
  refine lv_aload_n hx hb dd_Machine_hasElements_64 rfl (lv_at hl 0 rfl) ?_
  refine gf_h_Machine_60_trap C hP dd_Machine_hasElements_65 ?_
  refine lv_if_ne (tgt := 75) hx hb dd_Machine_hasElements_68 (by decide) (fun hc => ?_) (fun hc => ?_)
  · have h := xp_f hc h
    refine lv_iconst (v := 0) hx hb dd_Machine_hasElements_75 (by decide) ?_
    obtain ⟨rfl, rfl⟩ := xp_r h
    exact xr_zret C hP hS (by decide) dd_Machine_hasElements_76
  · have h := xp_t hc h
    refine lv_iconst (v := 1) hx hb dd_Machine_hasElements_71 (by decide) ?_
    refine lv_goto (tgt := 76) hx hb dd_Machine_hasElements_72 (by decide) ?_
    obtain ⟨rfl, rfl⟩ := xp_r h
    exact xr_zret C hP hS (by decide) dd_Machine_hasElements_76
set_option maxHeartbeats 4000000 in
set_option maxRecDepth 100000 in
theorem ct_Machine_hasElements {l : Launch} {D : va_G} {ad : Nat → Nat} {ca : Nat → ClassId} {ads : List Nat} (htr : l.stackTraces = false) (hok : xk_ok (kw_h ad ca) ads) {x0 : Int32} {x1 : Int64} {u u' : xk_St} {r : Int32} (h : fm_Machine_hasElements x0 x1 u = some (r, u')) :
    ∀ sz, xk_Met l ⟨"ModuleHouse$Machine", "hasElements", "(IJ)Z"⟩ (Cond.code ⟨"ModuleHouse$Machine", "hasElements", "(IJ)Z"⟩ prog_5_method_28_code 5 (some .boolean) :: xk_gd) rm_Machine_hasElements (xk_Pc D kx_cl (kx_ty ca) (kw_h ad ca) ads xk_F sz [.ref (ad 60), .int x0, .long x1] u) (xk_Qc D kx_cl (kw_h ad ca) ads (xo_i (.inl r)) u') (xk_A ads sz) := by
  unfold fm_Machine_hasElements at h
  refine xk_con (by decide) htr hok (Nat.le_of_ble_eq_true rfl) (fun p e s m below meth c ls C hne hl hP => ?_)
  have hx := C.1.1
  have hb := C.1.2.1
  have hS : va_S (xk_A ads s.heap.size) s.heap s.heap [] := va_S.rf
  have hl : lv_has ls 5 [(0, .ref (ad 60)), (1, .int x0), (2, .long x1)] := hl
  refine lv_aload_n hx hb dd_Machine_hasElements_0 rfl (lv_at hl 0 rfl) ?_
  refine gf_h_Machine_60_values C hP dd_Machine_hasElements_1 ?_
  refine gf_h_Machine_61_value C hP dd_Machine_hasElements_4 ?_
  refine lv_iload_n hx hb dd_Machine_hasElements_7 rfl (lv_at hl 1 rfl) ?_
  obtain ⟨hi, h⟩ := xp_g h
  refine al_h_62 C hP hi dd_Machine_hasElements_8 ?_
  refine lv_l2i hx hb dd_Machine_hasElements_9 rfl ?_
  obtain ⟨a1, ea1, h⟩ := xp_let h
  refine xr_nami ea1 ?_
  refine lv_istore (lv' := [(4, .int a1), (0, .ref (ad 60)), (1, .int x0), (2, .long x1)]) hx hb dd_Machine_hasElements_10 hl (by decide) rfl (fun ls hl => ?_)
  refine lv_iload hx hb dd_Machine_hasElements_12 (lv_at hl 0 rfl) ?_
  refine lv_if_ne (tgt := 26) hx hb dd_Machine_hasElements_14 (by decide) (fun hc => ?_) (fun hc => ?_)
  · have h := xp_f hc h
    refine lv_aload_n hx hb dd_Machine_hasElements_26 rfl (lv_at hl 1 rfl) ?_
    refine gf_h_Machine_60_values C hP dd_Machine_hasElements_27 ?_
    refine gf_h_Machine_61_value C hP dd_Machine_hasElements_30 ?_
    refine lv_iload_n hx hb dd_Machine_hasElements_33 rfl (lv_at hl 2 rfl) ?_
    refine lv_iconst (v := 1) hx hb dd_Machine_hasElements_34 (by decide) ?_
    refine lv_iadd hx hb dd_Machine_hasElements_35 ?_
    obtain ⟨hi, h⟩ := xp_g h
    refine al_h_62 C hP hi dd_Machine_hasElements_36 ?_
    refine lv_ldc2 (v := 4294967295) hx hb C.1.2.2.2.1 (C.1.2.2.2.2 _ (xk_c6 (w := Jvm.Cond.constantLong "ModuleHouse$Machine" 255 4294967295) 215 rfl rfl)) dd_Machine_hasElements_37 ?_
    refine lv_land hx hb dd_Machine_hasElements_40 ?_
    refine lv_lload_n hx hb dd_Machine_hasElements_41 rfl (lv_at hl 3 rfl) ?_
    refine lv_ladd hx hb dd_Machine_hasElements_42 ?_
    refine lv_aload_n hx hb dd_Machine_hasElements_43 rfl (lv_at hl 1 rfl) ?_
    refine gf_h_Machine_60_heap C hP dd_Machine_hasElements_44 ?_
    refine gf_h_Machine_67_size C hP dd_Machine_hasElements_47 ?_
    refine lv_iload hx hb dd_Machine_hasElements_50 (lv_at hl 0 rfl) ?_
    obtain ⟨hi, h⟩ := xp_g h
    refine al_h_72 C hP hi dd_Machine_hasElements_52 ?_
    refine lv_i2l hx hb dd_Machine_hasElements_53 rfl ?_
    refine xr_lc_le (tgt := 64) hx hb dd_Machine_hasElements_54 dd_Machine_hasElements_55 (by decide) (fun hc => ?_) (fun hc => ?_)
    · have h := xp_t hc h
      exact wj_Machine_hasElements_64 htr C hne h hP hS (lv_sub hl [1] rfl)
    · have h := xp_f hc h
      refine lv_aload_n hx hb dd_Machine_hasElements_58 rfl (lv_at hl 1 rfl) ?_
      refine lv_bipush (v := 10) hx hb dd_Machine_hasElements_59 (by decide) ?_
      refine pf_h_Machine_60_trap C hP hS dd_Machine_hasElements_61 (fun H locs hP hS => ?_)
      obtain ⟨u2, eu2, h⟩ := xp_let h
      rw [← eu2] at hP
      exact wj_Machine_hasElements_64 htr C hne h hP hS (lv_sub hl [1] rfl)
  · have h := xp_t hc h
    refine lv_aload_n hx hb dd_Machine_hasElements_17 rfl (lv_at hl 1 rfl) ?_
    refine lv_bipush (v := 8) hx hb dd_Machine_hasElements_18 (by decide) ?_
    refine pf_h_Machine_60_trap C hP hS dd_Machine_hasElements_20 (fun H locs hP hS => ?_)
    obtain ⟨u3, eu3, h⟩ := xp_let h
    rw [← eu3] at hP
    refine lv_goto (tgt := 64) hx hb dd_Machine_hasElements_23 (by decide) ?_
    exact wj_Machine_hasElements_64 htr C hne h hP hS (lv_sub hl [1] rfl)
abbrev rm_Values_copy__h61_68 : Room := { frames := 1, cells := 1, slots := 6, locals := 0 }
noncomputable def fm_Values_copy__h61_68 (x1 : Int32) (x2 : Int32) (u : xk_St) : Option (Unit × xk_St) :=
  (if x1 < 0 ∨ 2000 ≤ x1.toNatClampNeg then none else if x2 < 0 ∨ 18000 ≤ x2.toNatClampNeg then none else xs_let (xs_B u 10 x2.toNatClampNeg (u.2.2.2 12 x1.toNatClampNeg)) fun u1 => if x1 < 0 ∨ 2000 ≤ x1.toNatClampNeg then none else if x2 < 0 ∨ 18000 ≤ x2.toNatClampNeg then none else xs_let (xs_A u1 37 x2.toNatClampNeg (vp_nar .boolean (u1.2.2.1 39 x1.toNatClampNeg))) fun u2 => some ((()), u2))
set_option maxHeartbeats 4000000 in
set_option maxRecDepth 100000 in
theorem ct_Values_copy__h61_68 {l : Launch} {D : va_G} {ad : Nat → Nat} {ca : Nat → ClassId} {ads : List Nat} (htr : l.stackTraces = false) (hok : xk_ok (kw_h ad ca) ads) {x1 : Int32} {x2 : Int32} {u u' : xk_St} {r : Unit} (h : fm_Values_copy__h61_68 x1 x2 u = some (r, u')) :
    ∀ sz, xk_Met l ⟨"ModuleHouse$Values", "copy", "(LModuleHouse$Values;II)V"⟩ (Cond.code ⟨"ModuleHouse$Values", "copy", "(LModuleHouse$Values;II)V"⟩ prog_12_method_6_code 4 none :: xk_gd) rm_Values_copy__h61_68 (xk_Pc D kx_cl (kx_ty ca) (kw_h ad ca) ads xk_F sz [.ref (ad 61), .ref (ad 68), .int x1, .int x2] u) (xk_Qc D kx_cl (kw_h ad ca) ads (xo_v (.inl r)) u') (xk_A ads sz) := by
  unfold fm_Values_copy__h61_68 at h
  refine xk_con (by decide) htr hok (Nat.le_of_ble_eq_true rfl) (fun p e s m below meth c ls C hne hl hP => ?_)
  have hx := C.1.1
  have hb := C.1.2.1
  have hS : va_S (xk_A ads s.heap.size) s.heap s.heap [] := va_S.rf
  have hl : lv_has ls 4 [(0, .ref (ad 61)), (1, .ref (ad 68)), (2, .int x1), (3, .int x2)] := hl
  refine lv_aload_n hx hb dd_Values_copy_0 rfl (lv_at hl 0 rfl) ?_
  refine gf_h_Values_61_value C hP dd_Values_copy_1 ?_
  refine lv_iload_n hx hb dd_Values_copy_4 rfl (lv_at hl 3 rfl) ?_
  refine lv_aload_n hx hb dd_Values_copy_5 rfl (lv_at hl 1 rfl) ?_
  refine gf_h_Values_68_value C hP dd_Values_copy_6 ?_
  refine lv_iload_n hx hb dd_Values_copy_9 rfl (lv_at hl 2 rfl) ?_
  obtain ⟨hi, h⟩ := xp_g h
  refine al_h_69 C hP hi dd_Values_copy_10 ?_
  obtain ⟨hi, h⟩ := xp_g h
  refine as_h_62 C hP hS hi dd_Values_copy_11 (fun H locs hP hS => ?_)
  obtain ⟨u1, eu1, h⟩ := xp_let h
  rw [← eu1] at hP
  refine lv_aload_n hx hb dd_Values_copy_12 rfl (lv_at hl 0 rfl) ?_
  refine gf_h_Values_61_refers C hP dd_Values_copy_13 ?_
  refine lv_iload_n hx hb dd_Values_copy_16 rfl (lv_at hl 3 rfl) ?_
  refine lv_aload_n hx hb dd_Values_copy_17 rfl (lv_at hl 1 rfl) ?_
  refine gf_h_Values_68_refers C hP dd_Values_copy_18 ?_
  refine lv_iload_n hx hb dd_Values_copy_21 rfl (lv_at hl 2 rfl) ?_
  obtain ⟨hi, h⟩ := xp_g h
  refine al_h_70 C hP hi dd_Values_copy_22 ?_
  obtain ⟨hi, h⟩ := xp_g h
  refine as_h_63 C hP hS hi dd_Values_copy_23 (fun H locs hP hS => ?_)
  obtain ⟨u2, eu2, h⟩ := xp_let h
  rw [← eu2] at hP
  obtain ⟨rfl, rfl⟩ := xp_r h
  exact xr_vret C hP hS dd_Values_copy_24
abbrev rm_Values_pushFrom__h61_68 : Room := { frames := 2, cells := 1, slots := 6, locals := 23 }
noncomputable def fm_Values_pushFrom__h61_68 (x1 : Int32) (u : xk_St) : Option (Unit × xk_St) :=
  (xs_seq (fm_Values_copy__h61_68 x1 (u.1 28) u) fun _ u1 => xs_let (xs_I u1 28 ((u1.1 28) + (1 : Int32))) fun u2 => some ((()), u2))
set_option maxHeartbeats 4000000 in
set_option maxRecDepth 100000 in
theorem ct_Values_pushFrom__h61_68 {l : Launch} {D : va_G} {ad : Nat → Nat} {ca : Nat → ClassId} {ads : List Nat} (htr : l.stackTraces = false) (hok : xk_ok (kw_h ad ca) ads) {x1 : Int32} {u u' : xk_St} {r : Unit} (h : fm_Values_pushFrom__h61_68 x1 u = some (r, u')) :
    ∀ sz, xk_Met l ⟨"ModuleHouse$Values", "pushFrom", "(LModuleHouse$Values;I)V"⟩ (Cond.code ⟨"ModuleHouse$Values", "pushFrom", "(LModuleHouse$Values;I)V"⟩ prog_12_method_7_code 3 none :: xk_gd) rm_Values_pushFrom__h61_68 (xk_Pc D kx_cl (kx_ty ca) (kw_h ad ca) ads xk_F sz [.ref (ad 61), .ref (ad 68), .int x1] u) (xk_Qc D kx_cl (kw_h ad ca) ads (xo_v (.inl r)) u') (xk_A ads sz) := by
  unfold fm_Values_pushFrom__h61_68 at h
  refine xk_con (by decide) htr hok (Nat.le_of_ble_eq_true rfl) (fun p e s m below meth c ls C hne hl hP => ?_)
  have hx := C.1.1
  have hb := C.1.2.1
  have hS : va_S (xk_A ads s.heap.size) s.heap s.heap [] := va_S.rf
  have hl : lv_has ls 3 [(0, .ref (ad 61)), (1, .ref (ad 68)), (2, .int x1)] := hl
  refine lv_aload_n hx hb dd_Values_pushFrom_0 rfl (lv_at hl 0 rfl) ?_
  refine lv_aload_n hx hb dd_Values_pushFrom_1 rfl (lv_at hl 1 rfl) ?_
  refine lv_iload_n hx hb dd_Values_pushFrom_2 rfl (lv_at hl 2 rfl) ?_
  refine lv_aload_n hx hb dd_Values_pushFrom_3 rfl (lv_at hl 0 rfl) ?_
  refine gf_h_Values_61_top C hP dd_Values_pushFrom_4 ?_
  obtain ⟨rx, u1, hq, h⟩ := xp_seq h
  refine xk_goesV (xr_V (As := [.ref (ad 68), .int x1, .int (u.1 28)]) (rest := []) C hP hS (ct_Values_copy__h61_68 htr hok hq) kq_Values_25 61 10 rfl rfl ⟨rfl, rfl, Nat.le_of_ble_eq_true rfl, Nat.le_of_ble_eq_true rfl⟩ ⟨Nat.le_of_ble_eq_true rfl, Nat.le_of_ble_eq_true rfl⟩ hl.1 rfl rfl (Nat.le_of_ble_eq_true rfl) dd_Values_pushFrom_7) hS (fun H locs hP hS => ?_)
  clear hq
  refine lv_aload_n hx hb dd_Values_pushFrom_10 rfl (lv_at hl 0 rfl) ?_
  refine lv_dup hx hb dd_Values_pushFrom_11 rfl ?_
  refine gf_h_Values_61_top C hP dd_Values_pushFrom_12 ?_
  refine lv_iconst (v := 1) hx hb dd_Values_pushFrom_15 (by decide) ?_
  refine lv_iadd hx hb dd_Values_pushFrom_16 ?_
  refine pf_h_Values_61_top C hP hS dd_Values_pushFrom_17 (fun H locs hP hS => ?_)
  obtain ⟨u2, eu2, h⟩ := xp_let h
  rw [← eu2] at hP
  obtain ⟨rfl, rfl⟩ := xp_r h
  exact xr_vret C hP hS dd_Values_pushFrom_20
abbrev rm_Values_pop__h61 : Room := { frames := 1, cells := 1, slots := 6, locals := 0 }
noncomputable def fm_Values_pop__h61 (u : xk_St) : Option (Int64 × xk_St) :=
  (xs_let (xs_I u 28 ((u.1 28) - (1 : Int32))) fun u1 => if (u1.1 28) < 0 ∨ 18000 ≤ (u1.1 28).toNatClampNeg then none else some ((u1.2.2.2 10 (u1.1 28).toNatClampNeg), u1))
set_option maxHeartbeats 4000000 in
set_option maxRecDepth 100000 in
theorem ct_Values_pop__h61 {l : Launch} {D : va_G} {ad : Nat → Nat} {ca : Nat → ClassId} {ads : List Nat} (htr : l.stackTraces = false) (hok : xk_ok (kw_h ad ca) ads) {u u' : xk_St} {r : Int64} (h : fm_Values_pop__h61 u = some (r, u')) :
    ∀ sz, xk_Met l ⟨"ModuleHouse$Values", "pop", "()J"⟩ (Cond.code ⟨"ModuleHouse$Values", "pop", "()J"⟩ prog_12_method_5_code 1 (some .long) :: xk_gd) rm_Values_pop__h61 (xk_Pc D kx_cl (kx_ty ca) (kw_h ad ca) ads xk_F sz [.ref (ad 61)] u) (xk_Qc D kx_cl (kw_h ad ca) ads (xo_l (.inl r)) u') (xk_A ads sz) := by
  unfold fm_Values_pop__h61 at h
  refine xk_con (by decide) htr hok (Nat.le_of_ble_eq_true rfl) (fun p e s m below meth c ls C hne hl hP => ?_)
  have hx := C.1.1
  have hb := C.1.2.1
  have hS : va_S (xk_A ads s.heap.size) s.heap s.heap [] := va_S.rf
  have hl : lv_has ls 1 [(0, .ref (ad 61))] := hl
  refine lv_aload_n hx hb dd_Values_pop_0 rfl (lv_at hl 0 rfl) ?_
  refine lv_dup hx hb dd_Values_pop_1 rfl ?_
  refine gf_h_Values_61_top C hP dd_Values_pop_2 ?_
  refine lv_iconst (v := 1) hx hb dd_Values_pop_5 (by decide) ?_
  refine lv_isub hx hb dd_Values_pop_6 ?_
  refine pf_h_Values_61_top C hP hS dd_Values_pop_7 (fun H locs hP hS => ?_)
  obtain ⟨u1, eu1, h⟩ := xp_let h
  rw [← eu1] at hP
  refine lv_aload_n hx hb dd_Values_pop_10 rfl (lv_at hl 0 rfl) ?_
  refine gf_h_Values_61_value C hP dd_Values_pop_11 ?_
  refine lv_aload_n hx hb dd_Values_pop_14 rfl (lv_at hl 0 rfl) ?_
  refine gf_h_Values_61_top C hP dd_Values_pop_15 ?_
  obtain ⟨hi, h⟩ := xp_g h
  refine al_h_62 C hP hi dd_Values_pop_18 ?_
  obtain ⟨rfl, rfl⟩ := xp_r h
  exact xr_lret C hP hS dd_Values_pop_19
abbrev rm_Numbers_signed : Room := { frames := 1, cells := 1, slots := 6, locals := 0 }
noncomputable def fm_Numbers_signed (x0 : Int64) (x1 : Int32) (u : xk_St) : Option (Int64 × xk_St) :=
  some (((x0 <<< (((64 : Int32) - x1).toInt64 &&& 63)) >>> (((64 : Int32) - x1).toInt64 &&& 63)), u)
set_option maxHeartbeats 4000000 in
set_option maxRecDepth 100000 in
theorem ct_Numbers_signed {l : Launch} {D : va_G} {ad : Nat → Nat} {ca : Nat → ClassId} {ads : List Nat} (htr : l.stackTraces = false) (hok : xk_ok (kw_h ad ca) ads) {x0 : Int64} {x1 : Int32} {u u' : xk_St} {r : Int64} (h : fm_Numbers_signed x0 x1 u = some (r, u')) :
    ∀ sz, xk_Met l ⟨"ModuleHouse$Numbers", "signed", "(JI)J"⟩ (Cond.code ⟨"ModuleHouse$Numbers", "signed", "(JI)J"⟩ prog_7_method_11_code 3 (some .long) :: xk_gd) rm_Numbers_signed (xk_Pc D kx_cl (kx_ty ca) (kw_h ad ca) ads xk_F sz [.long x0, .int x1] u) (xk_Qc D kx_cl (kw_h ad ca) ads (xo_l (.inl r)) u') (xk_A ads sz) := by
  unfold fm_Numbers_signed at h
  refine xk_con (by decide) htr hok (Nat.le_of_ble_eq_true rfl) (fun p e s m below meth c ls C hne hl hP => ?_)
  have hx := C.1.1
  have hb := C.1.2.1
  have hS : va_S (xk_A ads s.heap.size) s.heap s.heap [] := va_S.rf
  have hl : lv_has ls 3 [(0, .long x0), (2, .int x1)] := hl
  refine lv_lload_n hx hb dd_Numbers_signed_0 rfl (lv_at hl 0 rfl) ?_
  refine lv_bipush (v := 64) hx hb dd_Numbers_signed_1 (by decide) ?_
  refine lv_iload_n hx hb dd_Numbers_signed_3 rfl (lv_at hl 1 rfl) ?_
  refine lv_isub hx hb dd_Numbers_signed_4 ?_
  refine lv_lshl hx hb dd_Numbers_signed_5 rfl ?_
  refine lv_bipush (v := 64) hx hb dd_Numbers_signed_6 (by decide) ?_
  refine lv_iload_n hx hb dd_Numbers_signed_8 rfl (lv_at hl 1 rfl) ?_
  refine lv_isub hx hb dd_Numbers_signed_9 ?_
  refine lv_lshr hx hb dd_Numbers_signed_10 rfl ?_
  obtain ⟨rfl, rfl⟩ := xp_r h
  exact xr_lret C hP hS dd_Numbers_signed_11
abbrev rm_Machine_pushCell : Room := { frames := 3, cells := 1, slots := 6, locals := 45 }
noncomputable def jb_Machine_pushCell_42 (s0 : Int32) (s1 : Int64) (u : xk_St) : Option (Unit × xk_St) :=
  (xs_seq (fm_Numbers_signed s1 s0 u) fun a4 u5 => xs_seq (fm_Values_push__h61 a4 u5) fun _ u6 => some ((()), u6))
noncomputable def fm_Machine_pushCell (x0 : Int32) (x1 : Int32) (x2 : Int32) (u : xk_St) : Option (Unit × xk_St) :=
  (xs_seq (fm_Values_pushFrom__h61_68 x0 u) fun _ u1 => if x2 = (0 : Int32) then (some ((()), u1)) else ((xs_seq (fm_Values_pop__h61 u1) fun a2 u3 => if x1 = (3 : Int32) then (jb_Machine_pushCell_42 (8 : Int32) a2 u3) else (jb_Machine_pushCell_42 (16 : Int32) a2 u3))))
set_option maxHeartbeats 4000000 in
set_option maxRecDepth 100000 in
theorem wj_Machine_pushCell_42 {p : Program} {l : Launch} {e : Env} {s : State} {m : MethodId} {args : Array Value} {below : List Frame} {meth : Method} {c : Code} {D : va_G} {ad : Nat → Nat} {ca : Nat → ClassId} {ads : List Nat} (htr : l.stackTraces = false) (C : xk_C D kx_cl (kx_ty ca) (kw_h ad ca) ads "ModuleHouse$Machine" prog_5_method_22_code 4 none p e s m args meth c) (hne : c.exceptionTable.isEmpty = true) {u' : xk_St} {r : Unit} {s0 : Int32} {s1 : Int64} {u : xk_St} {H : Heap} {locs : List Loc} {ls : Array Slot} (h : jb_Machine_pushCell_42  s0 s1 u = some (r, u')) (hP : va_P D kx_cl (kw_h ad ca u) H) (hS : va_S (xk_A ads s.heap.size) s.heap H locs) (hl : lv_has ls 4 []) : W p l e rm_Machine_pushCell s m args below meth c H locs 0 0 (xk_MQ below (xk_Qc D kx_cl (kw_h ad ca) ads (xo_v (.inl r)) u') args s (xk_A ads s.heap.size)) (F0 m 42 ls [.int s0, .long s1, .ref (ad 61)]) := by
  have hx := C.1.1
  have hb := C.1.2.1
  have hok := C.2.2.1
  unfold jb_Machine_pushCell_42 at h
  obtain ⟨a4, u5, hq, h⟩ := xp_seq h
  refine xk_goesL (xr_S (As := [.long s1, .int s0]) (rest := [.ref (ad 61)]) C hP hS (ct_Numbers_signed htr hok hq) kq_Machine_295 ⟨rfl, rfl, Nat.le_of_ble_eq_true rfl, Nat.le_of_ble_eq_true rfl⟩ ⟨Nat.le_of_ble_eq_true rfl, Nat.le_of_ble_eq_true rfl⟩ hl.1 rfl rfl (Nat.le_of_ble_eq_true rfl) dd_Machine_pushCell_42) hS (fun H locs hP hS => ?_)
  clear hq
  obtain ⟨rx, u6, hq, h⟩ := xp_seq h
  refine xk_goesV (xr_V (As := [.long a4]) (rest := []) C hP hS (ct_Values_push__h61 htr hok hq) kq_Machine_99 61 10 rfl rfl ⟨rfl, rfl, Nat.le_of_ble_eq_true rfl, Nat.le_of_ble_eq_true rfl⟩ ⟨Nat.le_of_ble_eq_true rfl, Nat.le_of_ble_eq_true rfl⟩ hl.1 rfl rfl (Nat.le_of_ble_eq_true rfl) dd_Machine_pushCell_45) hS (fun H locs hP hS => ?_)
  clear hq
  obtain ⟨rfl, rfl⟩ := xp_r h
  exact xr_vret C hP hS dd_Machine_pushCell_48
set_option maxHeartbeats 4000000 in
set_option maxRecDepth 100000 in
theorem ct_Machine_pushCell {l : Launch} {D : va_G} {ad : Nat → Nat} {ca : Nat → ClassId} {ads : List Nat} (htr : l.stackTraces = false) (hok : xk_ok (kw_h ad ca) ads) {x0 : Int32} {x1 : Int32} {x2 : Int32} {u u' : xk_St} {r : Unit} (h : fm_Machine_pushCell x0 x1 x2 u = some (r, u')) :
    ∀ sz, xk_Met l ⟨"ModuleHouse$Machine", "pushCell", "(IIZ)V"⟩ (Cond.code ⟨"ModuleHouse$Machine", "pushCell", "(IIZ)V"⟩ prog_5_method_22_code 4 none :: xk_gd) rm_Machine_pushCell (xk_Pc D kx_cl (kx_ty ca) (kw_h ad ca) ads xk_F sz [.ref (ad 60), .int x0, .int x1, .int x2] u) (xk_Qc D kx_cl (kw_h ad ca) ads (xo_v (.inl r)) u') (xk_A ads sz) := by
  unfold fm_Machine_pushCell at h
  refine xk_con (by decide) htr hok (Nat.le_of_ble_eq_true rfl) (fun p e s m below meth c ls C hne hl hP => ?_)
  have hx := C.1.1
  have hb := C.1.2.1
  have hS : va_S (xk_A ads s.heap.size) s.heap s.heap [] := va_S.rf
  have hl : lv_has ls 4 [(0, .ref (ad 60)), (1, .int x0), (2, .int x1), (3, .int x2)] := hl
  refine lv_aload_n hx hb dd_Machine_pushCell_0 rfl (lv_at hl 0 rfl) ?_
  refine gf_h_Machine_60_values C hP dd_Machine_pushCell_1 ?_
  refine lv_aload_n hx hb dd_Machine_pushCell_4 rfl (lv_at hl 0 rfl) ?_
  refine gf_h_Machine_60_heap C hP dd_Machine_pushCell_5 ?_
  refine gf_h_Machine_67_cells C hP dd_Machine_pushCell_8 ?_
  refine lv_iload_n hx hb dd_Machine_pushCell_11 rfl (lv_at hl 1 rfl) ?_
  obtain ⟨rx, u1, hq, h⟩ := xp_seq h
  refine xk_goesV (xr_V (As := [.ref (ad 68), .int x0]) (rest := []) C hP hS (ct_Values_pushFrom__h61_68 htr hok hq) kq_Machine_266 61 10 rfl rfl ⟨rfl, rfl, Nat.le_of_ble_eq_true rfl, Nat.le_of_ble_eq_true rfl⟩ ⟨Nat.le_of_ble_eq_true rfl, Nat.le_of_ble_eq_true rfl⟩ hl.1 rfl rfl (Nat.le_of_ble_eq_true rfl) dd_Machine_pushCell_12) hS (fun H locs hP hS => ?_)
  clear hq
  refine lv_iload_n hx hb dd_Machine_pushCell_15 rfl (lv_at hl 3 rfl) ?_
  refine lv_if_eq (tgt := 48) hx hb dd_Machine_pushCell_16 (by decide) (fun hc => ?_) (fun hc => ?_)
  · have h := xp_t hc h
    obtain ⟨rfl, rfl⟩ := xp_r h
    exact xr_vret C hP hS dd_Machine_pushCell_48
  · have h := xp_f hc h
    refine lv_aload_n hx hb dd_Machine_pushCell_19 rfl (lv_at hl 0 rfl) ?_
    refine gf_h_Machine_60_values C hP dd_Machine_pushCell_20 ?_
    refine lv_aload_n hx hb dd_Machine_pushCell_23 rfl (lv_at hl 0 rfl) ?_
    refine gf_h_Machine_60_values C hP dd_Machine_pushCell_24 ?_
    obtain ⟨a2, u3, hq, h⟩ := xp_seq h
    refine xk_goesL (xr_V (As := []) (rest := [.ref (ad 61)]) C hP hS (ct_Values_pop__h61 htr hok hq) kq_Machine_245 61 10 rfl rfl ⟨rfl, rfl, Nat.le_of_ble_eq_true rfl, Nat.le_of_ble_eq_true rfl⟩ ⟨Nat.le_of_ble_eq_true rfl, Nat.le_of_ble_eq_true rfl⟩ hl.1 rfl rfl (Nat.le_of_ble_eq_true rfl) dd_Machine_pushCell_27) hS (fun H locs hP hS => ?_)
    clear hq
    refine lv_iload_n hx hb dd_Machine_pushCell_30 rfl (lv_at hl 2 rfl) ?_
    refine lv_iconst (v := 3) hx hb dd_Machine_pushCell_31 (by decide) ?_
    refine lv_icmp_ne (tgt := 40) hx hb dd_Machine_pushCell_32 (by decide) (fun hc => ?_) (fun hc => ?_)
    · have h := xp_f hc h
      refine lv_bipush (v := 16) hx hb dd_Machine_pushCell_40 (by decide) ?_
      exact wj_Machine_pushCell_42 htr C hne h hP hS (lv_sub hl [] rfl)
    · have h := xp_t hc h
      refine lv_bipush (v := 8) hx hb dd_Machine_pushCell_35 (by decide) ?_
      refine lv_goto (tgt := 42) hx hb dd_Machine_pushCell_37 (by decide) ?_
      exact wj_Machine_pushCell_42 htr C hne h hP hS (lv_sub hl [] rfl)
abbrev rm_Machine_pushElement : Room := { frames := 4, cells := 1, slots := 6, locals := 68 }
noncomputable def fm_Machine_pushElement (x0 : Int32) (x1 : Int32) (u : xk_St) : Option (Unit × xk_St) :=
  (xs_let ((u.1 28) - (2 : Int32)) fun a1 => xs_seq (fm_Machine_hasElements a1 (1 : Int64) u) fun a2 u3 => if a2 = (0 : Int32) then (some ((()), u3)) else ((if a1 < 0 ∨ 18000 ≤ a1.toNatClampNeg then none else if (a1 + (1 : Int32)) < 0 ∨ 18000 ≤ (a1 + (1 : Int32)).toNatClampNeg then none else xs_seq (fm_Heap_cellOf ((u3.2.2.2 10 a1.toNatClampNeg).toInt32) ((u3.2.2.2 10 (a1 + (1 : Int32)).toNatClampNeg).toInt32) u3) fun a4 u5 => xs_let (xs_I u5 28 a1) fun u6 => xs_seq (fm_Types_member x0 (0 : Int32) u6) fun a7 u8 => xs_seq (fm_Machine_pushCell a4 a7 x1 u8) fun _ u9 => some ((()), u9))))
set_option maxHeartbeats 4000000 in
set_option maxRecDepth 100000 in
theorem ct_Machine_pushElement {l : Launch} {D : va_G} {ad : Nat → Nat} {ca : Nat → ClassId} {ads : List Nat} (htr : l.stackTraces = false) (hok : xk_ok (kw_h ad ca) ads) {x0 : Int32} {x1 : Int32} {u u' : xk_St} {r : Unit} (h : fm_Machine_pushElement x0 x1 u = some (r, u')) :
    ∀ sz, xk_Met l ⟨"ModuleHouse$Machine", "pushElement", "(IZ)V"⟩ (Cond.code ⟨"ModuleHouse$Machine", "pushElement", "(IZ)V"⟩ prog_5_method_30_code 5 none :: xk_gd) rm_Machine_pushElement (xk_Pc D kx_cl (kx_ty ca) (kw_h ad ca) ads xk_F sz [.ref (ad 60), .int x0, .int x1] u) (xk_Qc D kx_cl (kw_h ad ca) ads (xo_v (.inl r)) u') (xk_A ads sz) := by
  unfold fm_Machine_pushElement at h
  refine xk_con (by decide) htr hok (Nat.le_of_ble_eq_true rfl) (fun p e s m below meth c ls C hne hl hP => ?_)
  have hx := C.1.1
  have hb := C.1.2.1
  have hS : va_S (xk_A ads s.heap.size) s.heap s.heap [] := va_S.rf
  have hl : lv_has ls 5 [(0, .ref (ad 60)), (1, .int x0), (2, .int x1)] := hl
  refine lv_aload_n hx hb dd_Machine_pushElement_0 rfl (lv_at hl 0 rfl) ?_
  refine gf_h_Machine_60_values C hP dd_Machine_pushElement_1 ?_
  refine gf_h_Machine_61_top C hP dd_Machine_pushElement_4 ?_
  refine lv_iconst (v := 2) hx hb dd_Machine_pushElement_7 (by decide) ?_
  refine lv_isub hx hb dd_Machine_pushElement_8 ?_
  obtain ⟨a1, ea1, h⟩ := xp_let h
  refine xr_nami ea1 ?_
  refine lv_istore_n (lv' := [(3, .int a1), (0, .ref (ad 60)), (1, .int x0), (2, .int x1)]) hx hb dd_Machine_pushElement_9 rfl hl (by decide) rfl (fun ls hl => ?_)
  refine lv_aload_n hx hb dd_Machine_pushElement_10 rfl (lv_at hl 1 rfl) ?_
  refine lv_iload_n hx hb dd_Machine_pushElement_11 rfl (lv_at hl 0 rfl) ?_
  refine lv_lconst (v := 1) hx hb dd_Machine_pushElement_12 (by decide) ?_
  obtain ⟨a2, u3, hq, h⟩ := xp_seq h
  refine xk_goesI (xr_V (As := [.int a1, .long (1 : Int64)]) (rest := []) C hP hS (ct_Machine_hasElements htr hok hq) kq_Machine_387 60 4 rfl rfl ⟨rfl, rfl, Nat.le_of_ble_eq_true rfl, Nat.le_of_ble_eq_true rfl⟩ ⟨Nat.le_of_ble_eq_true rfl, Nat.le_of_ble_eq_true rfl⟩ hl.1 rfl rfl (Nat.le_of_ble_eq_true rfl) dd_Machine_pushElement_13) hS (fun H locs hP hS => ?_)
  clear hq
  refine lv_if_eq (tgt := 74) hx hb dd_Machine_pushElement_16 (by decide) (fun hc => ?_) (fun hc => ?_)
  · have h := xp_t hc h
    obtain ⟨rfl, rfl⟩ := xp_r h
    exact xr_vret C hP hS dd_Machine_pushElement_74
  · have h := xp_f hc h
    refine lv_aload_n hx hb dd_Machine_pushElement_19 rfl (lv_at hl 1 rfl) ?_
    refine gf_h_Machine_60_heap C hP dd_Machine_pushElement_20 ?_
    refine lv_aload_n hx hb dd_Machine_pushElement_23 rfl (lv_at hl 1 rfl) ?_
    refine gf_h_Machine_60_values C hP dd_Machine_pushElement_24 ?_
    refine gf_h_Machine_61_value C hP dd_Machine_pushElement_27 ?_
    refine lv_iload_n hx hb dd_Machine_pushElement_30 rfl (lv_at hl 0 rfl) ?_
    obtain ⟨hi, h⟩ := xp_g h
    refine al_h_62 C hP hi dd_Machine_pushElement_31 ?_
    refine lv_l2i hx hb dd_Machine_pushElement_32 rfl ?_
    refine lv_aload_n hx hb dd_Machine_pushElement_33 rfl (lv_at hl 1 rfl) ?_
    refine gf_h_Machine_60_values C hP dd_Machine_pushElement_34 ?_
    refine gf_h_Machine_61_value C hP dd_Machine_pushElement_37 ?_
    refine lv_iload_n hx hb dd_Machine_pushElement_40 rfl (lv_at hl 0 rfl) ?_
    refine lv_iconst (v := 1) hx hb dd_Machine_pushElement_41 (by decide) ?_
    refine lv_iadd hx hb dd_Machine_pushElement_42 ?_
    obtain ⟨hi, h⟩ := xp_g h
    refine al_h_62 C hP hi dd_Machine_pushElement_43 ?_
    refine lv_l2i hx hb dd_Machine_pushElement_44 rfl ?_
    obtain ⟨a4, u5, hq, h⟩ := xp_seq h
    refine xk_goesI (xr_V (As := [.int ((u3.2.2.2 10 a1.toNatClampNeg).toInt32), .int ((u3.2.2.2 10 (a1 + (1 : Int32)).toNatClampNeg).toInt32)]) (rest := []) C hP hS (ct_Heap_cellOf htr hok hq) kq_Machine_355 67 3 rfl rfl ⟨rfl, rfl, Nat.le_of_ble_eq_true rfl, Nat.le_of_ble_eq_true rfl⟩ ⟨Nat.le_of_ble_eq_true rfl, Nat.le_of_ble_eq_true rfl⟩ hl.1 rfl rfl (Nat.le_of_ble_eq_true rfl) dd_Machine_pushElement_45) hS (fun H locs hP hS => ?_)
    clear hq
    refine lv_istore (lv' := [(4, .int a4), (3, .int a1), (0, .ref (ad 60)), (1, .int x0), (2, .int x1)]) hx hb dd_Machine_pushElement_48 hl (by decide) rfl (fun ls hl => ?_)
    refine lv_aload_n hx hb dd_Machine_pushElement_50 rfl (lv_at hl 2 rfl) ?_
    refine gf_h_Machine_60_values C hP dd_Machine_pushElement_51 ?_
    refine lv_iload_n hx hb dd_Machine_pushElement_54 rfl (lv_at hl 1 rfl) ?_
    refine pf_h_Machine_61_top C hP hS dd_Machine_pushElement_55 (fun H locs hP hS => ?_)
    obtain ⟨u6, eu6, h⟩ := xp_let h
    rw [← eu6] at hP
    refine lv_aload_n hx hb dd_Machine_pushElement_58 rfl (lv_at hl 2 rfl) ?_
    refine lv_iload hx hb dd_Machine_pushElement_59 (lv_at hl 0 rfl) ?_
    refine lv_aload_n hx hb dd_Machine_pushElement_61 rfl (lv_at hl 2 rfl) ?_
    refine gf_h_Machine_60_types C hP dd_Machine_pushElement_62 ?_
    refine lv_iload_n hx hb dd_Machine_pushElement_65 rfl (lv_at hl 3 rfl) ?_
    refine lv_iconst (v := 0) hx hb dd_Machine_pushElement_66 (by decide) ?_
    obtain ⟨a7, u8, hq, h⟩ := xp_seq h
    refine xk_goesI (xr_V (As := [.int x0, .int (0 : Int32)]) (rest := [.int a4, .ref (ad 60)]) C hP hS (ct_Types_member htr hok hq) kq_Machine_358 6 9 rfl rfl ⟨rfl, rfl, Nat.le_of_ble_eq_true rfl, Nat.le_of_ble_eq_true rfl⟩ ⟨Nat.le_of_ble_eq_true rfl, Nat.le_of_ble_eq_true rfl⟩ hl.1 rfl rfl (Nat.le_of_ble_eq_true rfl) dd_Machine_pushElement_67) hS (fun H locs hP hS => ?_)
    clear hq
    refine lv_iload_n hx hb dd_Machine_pushElement_70 rfl (lv_at hl 4 rfl) ?_
    obtain ⟨rx, u9, hq, h⟩ := xp_seq h
    refine xk_goesV (xr_V (As := [.int a4, .int a7, .int x1]) (rest := []) C hP hS (ct_Machine_pushCell htr hok hq) kq_Machine_364 60 4 rfl rfl ⟨rfl, rfl, Nat.le_of_ble_eq_true rfl, Nat.le_of_ble_eq_true rfl⟩ ⟨Nat.le_of_ble_eq_true rfl, Nat.le_of_ble_eq_true rfl⟩ hl.1 rfl rfl (Nat.le_of_ble_eq_true rfl) dd_Machine_pushElement_71) hS (fun H locs hP hS => ?_)
    clear hq
    obtain ⟨rfl, rfl⟩ := xp_r h
    exact xr_vret C hP hS dd_Machine_pushElement_74
