abbrev rm_Reader_readSigned : Room := { frames := 6, cells := 1, slots := 6, locals := 100 }
noncomputable def jb_Reader_readSigned_117 (fu : Nat) (b2 : Int64) (s0 : Int64) (u : xk_St) : Option ((Int64 ⊕ Nat) × xk_St) :=
  if s0 = (0 : Int64) then (some (.inl b2, u)) else (if s0 = (-1 : Int64) then (some (.inl b2, u)) else (some (.inr 0, u)))
noncomputable def jb_Reader_readSigned_83 (fu : Nat) (b1 : Int32) (b2 : Int64) (b4 : Int32) (b5 : Int32) (s0 : Int32) (u : xk_St) : Option ((Int64 ⊕ Nat) × xk_St) :=
  (xs_let ((b2 <<< (s0.toInt64 &&& 63)) >>> (s0.toInt64 &&& 63)) fun a5 => if b4 = (63 : Int32) then (jb_Reader_readSigned_117 fu a5 (((b5 <<< ((25 : Int32) &&& 31)) >>> ((25 : Int32) &&& 31)).toInt64) u) else (jb_Reader_readSigned_117 fu a5 (a5 >>> ((b1 - (1 : Int32)).toInt64 &&& 63)) u))
noncomputable def jb_Reader_readSigned_5 (fu : Nat) : Nat → Int32 → Int64 → Int32 → xk_St → Option ((Int64 ⊕ Nat) × xk_St)
  | 0 => fun _ _ _ _ => none
  | n + 1 => fun b1 b2 b4 u =>
    xs_let (jb_Reader_readSigned_5 fu  n) fun k5 =>
    if b1 ≤ b4 then (some (.inr 0, u)) else (if (u.1 18) ≤ (u.1 17) then (some (.inr 0, u)) else ((if (u.1 17) < 0 ∨ 8192 ≤ (u.1 17).toNatClampNeg then none else xs_let ((u.2.2.1 1 (u.1 17).toNatClampNeg) &&& (255 : Int32)) fun a1 => xs_let (xs_I u 17 ((u.1 17) + (1 : Int32))) fun u2 => xs_let (b2 ||| (((a1 &&& (127 : Int32)).toInt64) <<< (b4.toInt64 &&& 63))) fun a3 => if (128 : Int32) ≤ a1 then ((xs_let (b4 + (7 : Int32)) fun a4 => k5 b1 a3 a4 u2)) else (if (57 : Int32) ≤ b4 then (jb_Reader_readSigned_83 fu b1 a3 b4 a1 (0 : Int32) u2) else (jb_Reader_readSigned_83 fu b1 a3 b4 a1 ((57 : Int32) - b4) u2)))))
noncomputable def fm_Reader_readSigned (fu : Nat) (x0 : Int32) (u : xk_St) : Option ((Int64 ⊕ Nat) × xk_St) :=
  jb_Reader_readSigned_5 fu fu x0 (0 : Int64) (0 : Int32) u
set_option maxHeartbeats 4000000 in
set_option maxRecDepth 100000 in
theorem wj_Reader_readSigned_117 {p : Program} {l : Launch} {e : Env} {s : State} {m : MethodId} {args : Array Value} {below : List Frame} {meth : Method} {c : Code} {D : va_G} {ad : Nat → Nat} {ca : Nat → ClassId} {ads : List Nat} {fu : Nat} (htr : l.stackTraces = false) (C : xk_C D kx_cl (kx_ty ca) (kw_h ad ca) ads "ModuleHouse$Reader" prog_9_method_6_code 9 (some .long) p e s m args meth c) (hne : c.exceptionTable.isEmpty = true) {u' : xk_St} {r : (Int64 ⊕ Nat)} {b2 : Int64} {s0 : Int64} {u : xk_St} {H : Heap} {locs : List Loc} {ls : Array Slot} (h : jb_Reader_readSigned_117 fu  b2 s0 u = some (r, u')) (hP : va_P D kx_cl (kw_h ad ca u) H) (hS : va_S (xk_A ads s.heap.size) s.heap H locs) (hl : lv_has ls 9 [(2, .long b2)]) : W p l e rm_Reader_readSigned s m args below meth c H locs 0 0 (xk_MQ below (xk_Qc D kx_cl (kw_h ad ca) ads (xo_l r) u') args s (xk_A ads s.heap.size)) (F0 m 117 ls [.long s0]) := by
  have hx := C.1.1
  have hb := C.1.2.1
  have hok := C.2.2.1
  unfold jb_Reader_readSigned_117 at h
  refine lv_lstore (lv' := [(7, .long s0), (2, .long b2)]) hx hb dd_Reader_readSigned_117 hl (by decide) rfl (fun ls hl => ?_)
  refine lv_lload hx hb dd_Reader_readSigned_119 (lv_at hl 0 rfl) ?_
  refine lv_lconst (v := 0) hx hb dd_Reader_readSigned_121 (by decide) ?_
  refine xr_lc_eq (tgt := 135) hx hb dd_Reader_readSigned_122 dd_Reader_readSigned_123 (by decide) (fun hc => ?_) (fun hc => ?_)
  · have h := xp_t hc h
    refine lv_lload_n hx hb dd_Reader_readSigned_135 rfl (lv_at hl 1 rfl) ?_
    obtain ⟨rfl, rfl⟩ := xp_r h
    exact xr_lret C hP hS dd_Reader_readSigned_136
  · have h := xp_f hc h
    refine lv_lload hx hb dd_Reader_readSigned_126 (lv_at hl 0 rfl) ?_
    refine lv_ldc2 (v := (-1)) hx hb C.1.2.2.2.1 (C.1.2.2.2.2 _ (xk_c4 (w := Jvm.Cond.constantLong "ModuleHouse$Reader" 101 (-1)) 183 rfl rfl)) dd_Reader_readSigned_128 ?_
    refine xr_lc_ne (tgt := 143) hx hb dd_Reader_readSigned_131 dd_Reader_readSigned_132 (by decide) (fun hc => ?_) (fun hc => ?_)
    · have h := xp_f hc h
      obtain ⟨rfl, rfl⟩ := xp_r h
      exact xr_throw C hP hS hne kz_Reader_0 hl.1 ⟨Nat.le_of_ble_eq_true rfl, Nat.le_of_ble_eq_true rfl, Nat.le_of_ble_eq_true rfl, Nat.le_of_ble_eq_true rfl⟩ dd_Reader_readSigned_143 dd_Reader_readSigned_146 dd_Reader_readSigned_147 dd_Reader_readSigned_150
    · have h := xp_t hc h
      refine lv_lload_n hx hb dd_Reader_readSigned_135 rfl (lv_at hl 1 rfl) ?_
      obtain ⟨rfl, rfl⟩ := xp_r h
      exact xr_lret C hP hS dd_Reader_readSigned_136
set_option maxHeartbeats 4000000 in
set_option maxRecDepth 100000 in
theorem wj_Reader_readSigned_83 {p : Program} {l : Launch} {e : Env} {s : State} {m : MethodId} {args : Array Value} {below : List Frame} {meth : Method} {c : Code} {D : va_G} {ad : Nat → Nat} {ca : Nat → ClassId} {ads : List Nat} {fu : Nat} (htr : l.stackTraces = false) (C : xk_C D kx_cl (kx_ty ca) (kw_h ad ca) ads "ModuleHouse$Reader" prog_9_method_6_code 9 (some .long) p e s m args meth c) (hne : c.exceptionTable.isEmpty = true) {u' : xk_St} {r : (Int64 ⊕ Nat)} {b1 : Int32} {b2 : Int64} {b4 : Int32} {b5 : Int32} {s0 : Int32} {u : xk_St} {H : Heap} {locs : List Loc} {ls : Array Slot} (h : jb_Reader_readSigned_83 fu  b1 b2 b4 b5 s0 u = some (r, u')) (hP : va_P D kx_cl (kw_h ad ca u) H) (hS : va_S (xk_A ads s.heap.size) s.heap H locs) (hl : lv_has ls 9 [(1, .int b1), (2, .long b2), (4, .int b4), (5, .int b5)]) : W p l e rm_Reader_readSigned s m args below meth c H locs 0 0 (xk_MQ below (xk_Qc D kx_cl (kw_h ad ca) ads (xo_l r) u') args s (xk_A ads s.heap.size)) (F0 m 83 ls [.int s0]) := by
  have hx := C.1.1
  have hb := C.1.2.1
  have hok := C.2.2.1
  unfold jb_Reader_readSigned_83 at h
  refine lv_istore (lv' := [(6, .int s0), (1, .int b1), (2, .long b2), (4, .int b4), (5, .int b5)]) hx hb dd_Reader_readSigned_83 hl (by decide) rfl (fun ls hl => ?_)
  refine lv_lload_n hx hb dd_Reader_readSigned_85 rfl (lv_at hl 2 rfl) ?_
  refine lv_iload hx hb dd_Reader_readSigned_86 (lv_at hl 0 rfl) ?_
  refine lv_lshl hx hb dd_Reader_readSigned_88 rfl ?_
  refine lv_iload hx hb dd_Reader_readSigned_89 (lv_at hl 0 rfl) ?_
  refine lv_lshr hx hb dd_Reader_readSigned_91 rfl ?_
  obtain ⟨a5, ea5, h⟩ := xp_let h
  refine xr_naml ea5 ?_
  refine lv_lstore_n (lv' := [(2, .long a5), (6, .int s0), (1, .int b1), (4, .int b4), (5, .int b5)]) hx hb dd_Reader_readSigned_92 rfl hl (by decide) rfl (fun ls hl => ?_)
  refine lv_iload hx hb dd_Reader_readSigned_93 (lv_at hl 3 rfl) ?_
  refine lv_bipush (v := 63) hx hb dd_Reader_readSigned_95 (by decide) ?_
  refine lv_icmp_ne (tgt := 112) hx hb dd_Reader_readSigned_97 (by decide) (fun hc => ?_) (fun hc => ?_)
  · have h := xp_f hc h
    refine lv_lload_n hx hb dd_Reader_readSigned_112 rfl (lv_at hl 0 rfl) ?_
    refine lv_iload_n hx hb dd_Reader_readSigned_113 rfl (lv_at hl 2 rfl) ?_
    refine lv_iconst (v := 1) hx hb dd_Reader_readSigned_114 (by decide) ?_
    refine lv_isub hx hb dd_Reader_readSigned_115 ?_
    refine lv_lshr hx hb dd_Reader_readSigned_116 rfl ?_
    exact wj_Reader_readSigned_117 htr C hne h hP hS (lv_sub hl [0] rfl)
  · have h := xp_t hc h
    refine lv_iload hx hb dd_Reader_readSigned_100 (lv_at hl 4 rfl) ?_
    refine lv_bipush (v := 25) hx hb dd_Reader_readSigned_102 (by decide) ?_
    refine lv_ishl hx hb dd_Reader_readSigned_104 ?_
    refine lv_bipush (v := 25) hx hb dd_Reader_readSigned_105 (by decide) ?_
    refine lv_ishr hx hb dd_Reader_readSigned_107 ?_
    refine lv_i2l hx hb dd_Reader_readSigned_108 rfl ?_
    refine lv_goto (tgt := 117) hx hb dd_Reader_readSigned_109 (by decide) ?_
    exact wj_Reader_readSigned_117 htr C hne h hP hS (lv_sub hl [0] rfl)
set_option maxHeartbeats 4000000 in
set_option maxRecDepth 100000 in
theorem wj_Reader_readSigned_5 {p : Program} {l : Launch} {e : Env} {s : State} {m : MethodId} {args : Array Value} {below : List Frame} {meth : Method} {c : Code} {D : va_G} {ad : Nat → Nat} {ca : Nat → ClassId} {ads : List Nat} {fu : Nat} (htr : l.stackTraces = false) (C : xk_C D kx_cl (kx_ty ca) (kw_h ad ca) ads "ModuleHouse$Reader" prog_9_method_6_code 9 (some .long) p e s m args meth c) (hne : c.exceptionTable.isEmpty = true) {u' : xk_St} {r : (Int64 ⊕ Nat)} : ∀ {n : Nat} {b1 : Int32} {b2 : Int64} {b4 : Int32} {u : xk_St} {H : Heap} {locs : List Loc} {ls : Array Slot} (h : jb_Reader_readSigned_5 fu  n b1 b2 b4 u = some (r, u')) (hP : va_P D kx_cl (kw_h ad ca u) H) (hS : va_S (xk_A ads s.heap.size) s.heap H locs) (hl : lv_has ls 9 [(0, .ref (ad 54)), (1, .int b1), (2, .long b2), (4, .int b4)]), W p l e rm_Reader_readSigned s m args below meth c H locs 0 0 (xk_MQ below (xk_Qc D kx_cl (kw_h ad ca) ads (xo_l r) u') args s (xk_A ads s.heap.size)) (F0 m 5 ls []) := by
  intro n
  have hx := C.1.1
  have hb := C.1.2.1
  have hok := C.2.2.1
  induction n with
  | zero =>
    intro _ _ _ u H locs ls h
    have h : none = some (r, u') := h
    cases h
  | succ n ih =>
    intro b1 b2 b4 u H locs ls h hP hS hl
    unfold jb_Reader_readSigned_5 at h
    obtain ⟨k5, ek5, h⟩ := xp_let h
    have hk5 : ∀ (c0 : Int32) (c1 : Int64) (c2 : Int32) (u : xk_St) (H : Heap) (locs : List Loc) (ls : Array Slot), k5 c0 c1 c2 u = some (r, u') → va_P D kx_cl (kw_h ad ca u) H → va_S (xk_A ads s.heap.size) s.heap H locs → lv_has ls 9 [(0, .ref (ad 54)), (1, .int c0), (2, .long c1), (4, .int c2)] → W p l e rm_Reader_readSigned s m args below meth c H locs 0 0 (xk_MQ below (xk_Qc D kx_cl (kw_h ad ca) ads (xo_l r) u') args s (xk_A ads s.heap.size)) (F0 m 5 ls []) := by
      intro c0 c1 c2 u H locs ls h hP hS hl
      subst ek5
      exact ih h hP hS hl
    clear ih ek5
    refine lv_iload hx hb dd_Reader_readSigned_5 (lv_at hl 3 rfl) ?_
    refine lv_iload_n hx hb dd_Reader_readSigned_7 rfl (lv_at hl 1 rfl) ?_
    refine lv_icmp_ge (tgt := 143) hx hb dd_Reader_readSigned_8 (by decide) (fun hc => ?_) (fun hc => ?_)
    · have h := xp_t hc h
      obtain ⟨rfl, rfl⟩ := xp_r h
      exact xr_throw C hP hS hne kz_Reader_0 hl.1 ⟨Nat.le_of_ble_eq_true rfl, Nat.le_of_ble_eq_true rfl, Nat.le_of_ble_eq_true rfl, Nat.le_of_ble_eq_true rfl⟩ dd_Reader_readSigned_143 dd_Reader_readSigned_146 dd_Reader_readSigned_147 dd_Reader_readSigned_150
    · have h := xp_f hc h
      refine lv_aload_n hx hb dd_Reader_readSigned_11 rfl (lv_at hl 0 rfl) ?_
      refine gf_h_Reader_54_next C hP dd_Reader_readSigned_12 ?_
      refine lv_aload_n hx hb dd_Reader_readSigned_15 rfl (lv_at hl 0 rfl) ?_
      refine gf_h_Reader_54_end C hP dd_Reader_readSigned_16 ?_
      refine lv_icmp_ge (tgt := 143) hx hb dd_Reader_readSigned_19 (by decide) (fun hc => ?_) (fun hc => ?_)
      · have h := xp_t hc h
        obtain ⟨rfl, rfl⟩ := xp_r h
        exact xr_throw C hP hS hne kz_Reader_0 hl.1 ⟨Nat.le_of_ble_eq_true rfl, Nat.le_of_ble_eq_true rfl, Nat.le_of_ble_eq_true rfl, Nat.le_of_ble_eq_true rfl⟩ dd_Reader_readSigned_143 dd_Reader_readSigned_146 dd_Reader_readSigned_147 dd_Reader_readSigned_150
      · have h := xp_f hc h
        refine lv_aload_n hx hb dd_Reader_readSigned_22 rfl (lv_at hl 0 rfl) ?_
        refine gf_h_Reader_54_bytes C hP dd_Reader_readSigned_23 ?_
        refine lv_aload_n hx hb dd_Reader_readSigned_26 rfl (lv_at hl 0 rfl) ?_
        refine gf_h_Reader_54_next C hP dd_Reader_readSigned_27 ?_
        obtain ⟨hi, h⟩ := xp_g h
        refine al_h_5 C hP hi dd_Reader_readSigned_30 ?_
        refine lv_sipush (v := 255) hx hb dd_Reader_readSigned_31 (by decide) ?_
        refine lv_iand hx hb dd_Reader_readSigned_34 ?_
        obtain ⟨a1, ea1, h⟩ := xp_let h
        refine xr_nami ea1 ?_
        refine lv_istore (lv' := [(5, .int a1), (0, .ref (ad 54)), (1, .int b1), (2, .long b2), (4, .int b4)]) hx hb dd_Reader_readSigned_35 hl (by decide) rfl (fun ls hl => ?_)
        refine lv_aload_n hx hb dd_Reader_readSigned_37 rfl (lv_at hl 1 rfl) ?_
        refine lv_dup hx hb dd_Reader_readSigned_38 rfl ?_
        refine gf_h_Reader_54_next C hP dd_Reader_readSigned_39 ?_
        refine lv_iconst (v := 1) hx hb dd_Reader_readSigned_42 (by decide) ?_
        refine lv_iadd hx hb dd_Reader_readSigned_43 ?_
        refine pf_h_Reader_54_next C hP hS dd_Reader_readSigned_44 (fun H locs hP hS => ?_)
        obtain ⟨u2, eu2, h⟩ := xp_let h
        rw [← eu2] at hP
        refine lv_lload_n hx hb dd_Reader_readSigned_47 rfl (lv_at hl 3 rfl) ?_
        refine lv_iload hx hb dd_Reader_readSigned_48 (lv_at hl 0 rfl) ?_
        refine lv_bipush (v := 127) hx hb dd_Reader_readSigned_50 (by decide) ?_
        refine lv_iand hx hb dd_Reader_readSigned_52 ?_
        refine lv_i2l hx hb dd_Reader_readSigned_53 rfl ?_
        refine lv_iload hx hb dd_Reader_readSigned_54 (lv_at hl 4 rfl) ?_
        refine lv_lshl hx hb dd_Reader_readSigned_56 rfl ?_
        refine lv_lor hx hb dd_Reader_readSigned_57 ?_
        obtain ⟨a3, ea3, h⟩ := xp_let h
        refine xr_naml ea3 ?_
        refine lv_lstore_n (lv' := [(2, .long a3), (5, .int a1), (0, .ref (ad 54)), (1, .int b1), (4, .int b4)]) hx hb dd_Reader_readSigned_58 rfl hl (by decide) rfl (fun ls hl => ?_)
        refine lv_iload hx hb dd_Reader_readSigned_59 (lv_at hl 1 rfl) ?_
        refine lv_sipush (v := 128) hx hb dd_Reader_readSigned_61 (by decide) ?_
        refine lv_icmp_ge (tgt := 137) hx hb dd_Reader_readSigned_64 (by decide) (fun hc => ?_) (fun hc => ?_)
        · have h := xp_t hc h
          obtain ⟨a4, ea4, h⟩ := xp_let h
          refine lv_iinc (v := a4) (lv' := [(4, .int a4), (2, .long a3), (5, .int a1), (0, .ref (ad 54)), (1, .int b1)]) hx hb dd_Reader_readSigned_137 hl (k := 4) rfl (by rw [ea4]; first | rfl | decide) (by decide) rfl (fun ls hl => ?_)
          refine lv_goto (tgt := 5) hx hb dd_Reader_readSigned_140 (by decide) ?_
          exact hk5 b1 a3 a4 u2 _ _ _ h hP hS (lv_sub hl [3, 4, 1, 0] rfl)
        · have h := xp_f hc h
          refine lv_iload hx hb dd_Reader_readSigned_67 (lv_at hl 4 rfl) ?_
          refine lv_bipush (v := 57) hx hb dd_Reader_readSigned_69 (by decide) ?_
          refine lv_icmp_ge (tgt := 82) hx hb dd_Reader_readSigned_71 (by decide) (fun hc => ?_) (fun hc => ?_)
          · have h := xp_t hc h
            refine lv_iconst (v := 0) hx hb dd_Reader_readSigned_82 (by decide) ?_
            exact wj_Reader_readSigned_83 htr C hne h hP hS (lv_sub hl [3, 0, 4, 1] rfl)
          · have h := xp_f hc h
            refine lv_bipush (v := 57) hx hb dd_Reader_readSigned_74 (by decide) ?_
            refine lv_iload hx hb dd_Reader_readSigned_76 (lv_at hl 4 rfl) ?_
            refine lv_isub hx hb dd_Reader_readSigned_78 ?_
            refine lv_goto (tgt := 83) hx hb dd_Reader_readSigned_79 (by decide) ?_
            exact wj_Reader_readSigned_83 htr C hne h hP hS (lv_sub hl [3, 0, 4, 1] rfl)
set_option maxHeartbeats 4000000 in
set_option maxRecDepth 100000 in
theorem ct_Reader_readSigned {l : Launch} {D : va_G} {ad : Nat → Nat} {ca : Nat → ClassId} {ads : List Nat} (htr : l.stackTraces = false) (hok : xk_ok (kw_h ad ca) ads) {fu : Nat} {x0 : Int32} {u u' : xk_St} {r : (Int64 ⊕ Nat)} (h : fm_Reader_readSigned fu x0 u = some (r, u')) :
    ∀ sz, xk_Met l ⟨"ModuleHouse$Reader", "readSigned", "(I)J"⟩ (Cond.code ⟨"ModuleHouse$Reader", "readSigned", "(I)J"⟩ prog_9_method_6_code 9 (some .long) :: xk_gd) rm_Reader_readSigned (xk_Pc D kx_cl (kx_ty ca) (kw_h ad ca) ads xk_F sz [.ref (ad 54), .int x0] u) (xk_Qc D kx_cl (kw_h ad ca) ads (xo_l r) u') (xk_A ads sz) := by
  unfold fm_Reader_readSigned at h
  refine xk_con (by decide) htr hok (Nat.le_of_ble_eq_true rfl) (fun p e s m below meth c ls C hne hl hP => ?_)
  have hx := C.1.1
  have hb := C.1.2.1
  have hS : va_S (xk_A ads s.heap.size) s.heap s.heap [] := va_S.rf
  have hl : lv_has ls 9 [(0, .ref (ad 54)), (1, .int x0)] := hl
  refine lv_lconst (v := 0) hx hb dd_Reader_readSigned_0 (by decide) ?_
  refine lv_lstore_n (lv' := [(2, .long (0 : Int64)), (0, .ref (ad 54)), (1, .int x0)]) hx hb dd_Reader_readSigned_1 rfl hl (by decide) rfl (fun ls hl => ?_)
  refine lv_iconst (v := 0) hx hb dd_Reader_readSigned_2 (by decide) ?_
  refine lv_istore (lv' := [(4, .int (0 : Int32)), (2, .long (0 : Int64)), (0, .ref (ad 54)), (1, .int x0)]) hx hb dd_Reader_readSigned_3 hl (by decide) rfl (fun ls hl => ?_)
  exact wj_Reader_readSigned_5 htr C hne h hP hS (lv_sub hl [2, 3, 1, 0] rfl)
abbrev rm_Reader_readTarget : Room := { frames := 7, cells := 1, slots := 6, locals := 128 }
noncomputable def jb_Reader_readTarget_17 (fu : Nat) (b1 : Int32) (u : xk_St) : Option ((Int32 ⊕ Nat) × xk_St) :=
  (xs_let (xs_I u 17 ((u.1 17) + (1 : Int32))) fun u3 => if b1 = (109 : Int32) then (some (.inl (0 : Int32), u3)) else (some (.inl (1 : Int32), u3)))
noncomputable def fm_Reader_readTarget (fu : Nat) (u : xk_St) : Option ((Int32 ⊕ Nat) × xk_St) :=
  (xs_try (fm_Reader_peekByte u) fun a1 u2 => if a1 = (109 : Int32) then (jb_Reader_readTarget_17 fu a1 u2) else (if a1 = (108 : Int32) then (jb_Reader_readTarget_17 fu a1 u2) else ((xs_try (fm_Reader_readSigned fu (33 : Int32) u2) fun a4 u5 => if (0 : Int64) ≤ a4 then (some (.inl ((3 : Int32) + ((if (64 : Int64) < a4 then (64 : Int64) else a4).toInt32)), u5)) else (some (.inr 0, u5))))))
set_option maxHeartbeats 4000000 in
set_option maxRecDepth 100000 in
theorem wj_Reader_readTarget_17 {p : Program} {l : Launch} {e : Env} {s : State} {m : MethodId} {args : Array Value} {below : List Frame} {meth : Method} {c : Code} {D : va_G} {ad : Nat → Nat} {ca : Nat → ClassId} {ads : List Nat} {fu : Nat} (htr : l.stackTraces = false) (C : xk_C D kx_cl (kx_ty ca) (kw_h ad ca) ads "ModuleHouse$Reader" prog_9_method_11_code 4 (some .int) p e s m args meth c) (hne : c.exceptionTable.isEmpty = true) {u' : xk_St} {r : (Int32 ⊕ Nat)} {b1 : Int32} {u : xk_St} {H : Heap} {locs : List Loc} {ls : Array Slot} (h : jb_Reader_readTarget_17 fu  b1 u = some (r, u')) (hP : va_P D kx_cl (kw_h ad ca u) H) (hS : va_S (xk_A ads s.heap.size) s.heap H locs) (hl : lv_has ls 4 [(0, .ref (ad 54)), (1, .int b1)]) : W p l e rm_Reader_readTarget s m args below meth c H locs 0 0 (xk_MQ below (xk_Qc D kx_cl (kw_h ad ca) ads (xo_i r) u') args s (xk_A ads s.heap.size)) (F0 m 17 ls []) := by
  have hx := C.1.1
  have hb := C.1.2.1
  have hok := C.2.2.1
  unfold jb_Reader_readTarget_17 at h
  refine lv_aload_n hx hb dd_Reader_readTarget_17 rfl (lv_at hl 0 rfl) ?_
  refine lv_dup hx hb dd_Reader_readTarget_18 rfl ?_
  refine gf_h_Reader_54_next C hP dd_Reader_readTarget_19 ?_
  refine lv_iconst (v := 1) hx hb dd_Reader_readTarget_22 (by decide) ?_
  refine lv_iadd hx hb dd_Reader_readTarget_23 ?_
  refine pf_h_Reader_54_next C hP hS dd_Reader_readTarget_24 (fun H locs hP hS => ?_)
  obtain ⟨u3, eu3, h⟩ := xp_let h
  rw [← eu3] at hP
  refine lv_iload_n hx hb dd_Reader_readTarget_27 rfl (lv_at hl 1 rfl) ?_
  refine lv_bipush (v := 109) hx hb dd_Reader_readTarget_28 (by decide) ?_
  refine lv_icmp_ne (tgt := 37) hx hb dd_Reader_readTarget_30 (by decide) (fun hc => ?_) (fun hc => ?_)
  · have h := xp_f hc h
    refine lv_iconst (v := 1) hx hb dd_Reader_readTarget_37 (by decide) ?_
    obtain ⟨rfl, rfl⟩ := xp_r h
    exact xr_iret C hP hS dd_Reader_readTarget_38
  · have h := xp_t hc h
    refine lv_iconst (v := 0) hx hb dd_Reader_readTarget_33 (by decide) ?_
    refine lv_goto (tgt := 38) hx hb dd_Reader_readTarget_34 (by decide) ?_
    obtain ⟨rfl, rfl⟩ := xp_r h
    exact xr_iret C hP hS dd_Reader_readTarget_38
set_option maxHeartbeats 4000000 in
set_option maxRecDepth 100000 in
theorem ct_Reader_readTarget {l : Launch} {D : va_G} {ad : Nat → Nat} {ca : Nat → ClassId} {ads : List Nat} (htr : l.stackTraces = false) (hok : xk_ok (kw_h ad ca) ads) {fu : Nat} {u u' : xk_St} {r : (Int32 ⊕ Nat)} (h : fm_Reader_readTarget fu u = some (r, u')) :
    ∀ sz, xk_Met l ⟨"ModuleHouse$Reader", "readTarget", "()I"⟩ (Cond.code ⟨"ModuleHouse$Reader", "readTarget", "()I"⟩ prog_9_method_11_code 4 (some .int) :: xk_gd) rm_Reader_readTarget (xk_Pc D kx_cl (kx_ty ca) (kw_h ad ca) ads xk_F sz [.ref (ad 54)] u) (xk_Qc D kx_cl (kw_h ad ca) ads (xo_i r) u') (xk_A ads sz) := by
  unfold fm_Reader_readTarget at h
  refine xk_con (by decide) htr hok (Nat.le_of_ble_eq_true rfl) (fun p e s m below meth c ls C hne hl hP => ?_)
  have hx := C.1.1
  have hb := C.1.2.1
  have hS : va_S (xk_A ads s.heap.size) s.heap s.heap [] := va_S.rf
  have hl : lv_has ls 4 [(0, .ref (ad 54))] := hl
  refine lv_aload_n hx hb dd_Reader_readTarget_0 rfl (lv_at hl 0 rfl) ?_
  rcases xp_try h with ⟨a1, u2, hq, h⟩ | ⟨kx, ux, hq, h⟩
  rotate_left
  · obtain ⟨rfl, rfl⟩ := xp_q h
    exact xk_up (xr_V (As := []) (rest := []) C hP hS (ct_Reader_peekByte htr hok hq) kq_Reader_115 54 7 rfl rfl ⟨rfl, rfl, Nat.le_of_ble_eq_true rfl, Nat.le_of_ble_eq_true rfl⟩ ⟨Nat.le_of_ble_eq_true rfl, Nat.le_of_ble_eq_true rfl⟩ hl.1 rfl rfl (Nat.le_of_ble_eq_true rfl) dd_Reader_readTarget_1) hS hne C.2.2.2.2.2.2.1
  refine xk_goesI (xr_V (As := []) (rest := []) C hP hS (ct_Reader_peekByte htr hok hq) kq_Reader_115 54 7 rfl rfl ⟨rfl, rfl, Nat.le_of_ble_eq_true rfl, Nat.le_of_ble_eq_true rfl⟩ ⟨Nat.le_of_ble_eq_true rfl, Nat.le_of_ble_eq_true rfl⟩ hl.1 rfl rfl (Nat.le_of_ble_eq_true rfl) dd_Reader_readTarget_1) hS (fun H locs hP hS => ?_)
  clear hq
  refine lv_istore_n (lv' := [(1, .int a1), (0, .ref (ad 54))]) hx hb dd_Reader_readTarget_4 rfl hl (by decide) rfl (fun ls hl => ?_)
  refine lv_iload_n hx hb dd_Reader_readTarget_5 rfl (lv_at hl 0 rfl) ?_
  refine lv_bipush (v := 109) hx hb dd_Reader_readTarget_6 (by decide) ?_
  refine lv_icmp_eq (tgt := 17) hx hb dd_Reader_readTarget_8 (by decide) (fun hc => ?_) (fun hc => ?_)
  · have h := xp_t hc h
    exact wj_Reader_readTarget_17 htr C hne h hP hS (lv_sub hl [1, 0] rfl)
  · have h := xp_f hc h
    refine lv_iload_n hx hb dd_Reader_readTarget_11 rfl (lv_at hl 0 rfl) ?_
    refine lv_bipush (v := 108) hx hb dd_Reader_readTarget_12 (by decide) ?_
    refine lv_icmp_ne (tgt := 39) hx hb dd_Reader_readTarget_14 (by decide) (fun hc => ?_) (fun hc => ?_)
    · have h := xp_f hc h
      refine lv_aload_n hx hb dd_Reader_readTarget_39 rfl (lv_at hl 1 rfl) ?_
      refine lv_bipush (v := 33) hx hb dd_Reader_readTarget_40 (by decide) ?_
      rcases xp_try h with ⟨a4, u5, hq, h⟩ | ⟨kx, ux, hq, h⟩
      rotate_left
      · obtain ⟨rfl, rfl⟩ := xp_q h
        exact xk_up (xr_V (As := [.int (33 : Int32)]) (rest := []) C hP hS (ct_Reader_readSigned htr hok hq) kq_Reader_120 54 7 rfl rfl ⟨rfl, rfl, Nat.le_of_ble_eq_true rfl, Nat.le_of_ble_eq_true rfl⟩ ⟨Nat.le_of_ble_eq_true rfl, Nat.le_of_ble_eq_true rfl⟩ hl.1 rfl rfl (Nat.le_of_ble_eq_true rfl) dd_Reader_readTarget_42) hS hne C.2.2.2.2.2.2.1
      refine xk_goesL (xr_V (As := [.int (33 : Int32)]) (rest := []) C hP hS (ct_Reader_readSigned htr hok hq) kq_Reader_120 54 7 rfl rfl ⟨rfl, rfl, Nat.le_of_ble_eq_true rfl, Nat.le_of_ble_eq_true rfl⟩ ⟨Nat.le_of_ble_eq_true rfl, Nat.le_of_ble_eq_true rfl⟩ hl.1 rfl rfl (Nat.le_of_ble_eq_true rfl) dd_Reader_readTarget_42) hS (fun H locs hP hS => ?_)
      clear hq
      refine lv_lstore_n (lv' := [(2, .long a4), (1, .int a1), (0, .ref (ad 54))]) hx hb dd_Reader_readTarget_45 rfl hl (by decide) rfl (fun ls hl => ?_)
      refine lv_lload_n hx hb dd_Reader_readTarget_46 rfl (lv_at hl 0 rfl) ?_
      refine lv_lconst (v := 0) hx hb dd_Reader_readTarget_47 (by decide) ?_
      refine xr_lc_ge (tgt := 60) hx hb dd_Reader_readTarget_48 dd_Reader_readTarget_49 (by decide) (fun hc => ?_) (fun hc => ?_)
      · have h := xp_t hc h
        refine lv_iconst (v := 3) hx hb dd_Reader_readTarget_60 (by decide) ?_
        refine lv_lload_n hx hb dd_Reader_readTarget_61 rfl (lv_at hl 0 rfl) ?_
        refine lv_ldc2 (v := 64) hx hb C.1.2.2.2.1 (C.1.2.2.2.2 _ (xk_c4 (w := Jvm.Cond.constantLong "ModuleHouse$Reader" 124 64) 184 rfl rfl)) dd_Reader_readTarget_62 ?_
        refine va_mmin_long hx hb (C.1.2.2.1.trans hl.1.symm) C.1.2.2.2.1 (C.1.2.2.2.2 _ (xk_c4 (w := Cond.methodLink "ModuleHouse$Reader" 111 Lib.MathLoose.min_long.x) 156 rfl rfl)) (C.1.2.2.2.2 _ (xk_c4 (w := Cond.static Lib.MathLoose.min_long.x) 157 rfl rfl)) (C.1.2.2.2.2 _ (xk_c1 (w := Cond.initialized "java/lang/Math") 24 rfl rfl)) (C.1.2.2.2.2 _ (xk_c4 (w := Cond.code Lib.MathLoose.min_long.x Lib.MathLoose.min_long.code 4 (some .long)) 158 rfl rfl)) (Nat.le_of_ble_eq_true rfl) (Nat.le_of_ble_eq_true rfl) (Nat.zero_le _) (Nat.zero_le _) dd_Reader_readTarget_65 ?_
        refine lv_l2i hx hb dd_Reader_readTarget_68 rfl ?_
        refine lv_iadd hx hb dd_Reader_readTarget_69 ?_
        obtain ⟨rfl, rfl⟩ := xp_r h
        exact xr_iret C hP hS dd_Reader_readTarget_70
      · have h := xp_f hc h
        obtain ⟨rfl, rfl⟩ := xp_r h
        exact xr_throw C hP hS hne kz_Reader_0 hl.1 ⟨Nat.le_of_ble_eq_true rfl, Nat.le_of_ble_eq_true rfl, Nat.le_of_ble_eq_true rfl, Nat.le_of_ble_eq_true rfl⟩ dd_Reader_readTarget_52 dd_Reader_readTarget_55 dd_Reader_readTarget_56 dd_Reader_readTarget_59
    · have h := xp_t hc h
      exact wj_Reader_readTarget_17 htr C hne h hP hS (lv_sub hl [1, 0] rfl)
abbrev rm_Types_reference : Room := { frames := 1, cells := 1, slots := 6, locals := 0 }
noncomputable def fm_Types_reference (x0 : Int32) (x1 : Int32) (u : xk_St) : Option (Int32 × xk_St) :=
  if x1 = (0 : Int32) then (some ((((16 : Int32) + ((2 : Int32) * x0)) + (0 : Int32)), u)) else (some ((((16 : Int32) + ((2 : Int32) * x0)) + (1 : Int32)), u))
set_option maxHeartbeats 4000000 in
set_option maxRecDepth 100000 in
theorem ct_Types_reference {l : Launch} {D : va_G} {ad : Nat → Nat} {ca : Nat → ClassId} {ads : List Nat} (htr : l.stackTraces = false) (hok : xk_ok (kw_h ad ca) ads) {x0 : Int32} {x1 : Int32} {u u' : xk_St} {r : Int32} (h : fm_Types_reference x0 x1 u = some (r, u')) :
    ∀ sz, xk_Met l ⟨"ModuleHouse$Types", "reference", "(IZ)I"⟩ (Cond.code ⟨"ModuleHouse$Types", "reference", "(IZ)I"⟩ prog_11_method_2_code 2 (some .int) :: xk_gd) rm_Types_reference (xk_Pc D kx_cl (kx_ty ca) (kw_h ad ca) ads xk_F sz [.int x0, .int x1] u) (xk_Qc D kx_cl (kw_h ad ca) ads (xo_i (.inl r)) u') (xk_A ads sz) := by
  unfold fm_Types_reference at h
  refine xk_con (by decide) htr hok (Nat.le_of_ble_eq_true rfl) (fun p e s m below meth c ls C hne hl hP => ?_)
  have hx := C.1.1
  have hb := C.1.2.1
  have hS : va_S (xk_A ads s.heap.size) s.heap s.heap [] := va_S.rf
  have hl : lv_has ls 2 [(0, .int x0), (1, .int x1)] := hl
  refine lv_bipush (v := 16) hx hb dd_Types_reference_0 (by decide) ?_
  refine lv_iconst (v := 2) hx hb dd_Types_reference_2 (by decide) ?_
  refine lv_iload_n hx hb dd_Types_reference_3 rfl (lv_at hl 0 rfl) ?_
  refine lv_imul hx hb dd_Types_reference_4 ?_
  refine lv_iadd hx hb dd_Types_reference_5 ?_
  refine lv_iload_n hx hb dd_Types_reference_6 rfl (lv_at hl 1 rfl) ?_
  refine lv_if_eq (tgt := 14) hx hb dd_Types_reference_7 (by decide) (fun hc => ?_) (fun hc => ?_)
  · have h := xp_t hc h
    refine lv_iconst (v := 0) hx hb dd_Types_reference_14 (by decide) ?_
    refine lv_iadd hx hb dd_Types_reference_15 ?_
    obtain ⟨rfl, rfl⟩ := xp_r h
    exact xr_iret C hP hS dd_Types_reference_16
  · have h := xp_f hc h
    refine lv_iconst (v := 1) hx hb dd_Types_reference_10 (by decide) ?_
    refine lv_goto (tgt := 15) hx hb dd_Types_reference_11 (by decide) ?_
    refine lv_iadd hx hb dd_Types_reference_15 ?_
    obtain ⟨rfl, rfl⟩ := xp_r h
    exact xr_iret C hP hS dd_Types_reference_16
abbrev rm_Reader_readValueType : Room := { frames := 8, cells := 1, slots := 6, locals := 151 }
noncomputable def fm_Reader_readValueType (fu : Nat) (u : xk_St) : Option ((Int32 ⊕ Nat) × xk_St) :=
  (xs_try (fm_Reader_readByte u) fun a1 u2 => if a1 = (99 : Int32) then ((xs_try (fm_Reader_readTarget fu u2) fun a3 u4 => xs_seq (fm_Types_reference a3 (1 : Int32) u4) fun a5 u6 => some (.inl a5, u6))) else if a1 = (100 : Int32) then ((xs_try (fm_Reader_readTarget fu u2) fun a7 u8 => xs_seq (fm_Types_reference a7 (0 : Int32) u8) fun a9 u10 => some (.inl a9, u10))) else if a1 = (108 : Int32) then ((xs_seq (fm_Types_reference (1 : Int32) (1 : Int32) u2) fun a11 u12 => some (.inl a11, u12))) else if a1 = (109 : Int32) then ((xs_seq (fm_Types_reference (0 : Int32) (1 : Int32) u2) fun a13 u14 => some (.inl a13, u14))) else if a1 = (126 : Int32) then (some (.inl (2 : Int32), u2)) else if a1 = (127 : Int32) then (some (.inl (1 : Int32), u2)) else (some (.inr 0, u2)))
set_option maxHeartbeats 4000000 in
set_option maxRecDepth 100000 in
theorem ct_Reader_readValueType {l : Launch} {D : va_G} {ad : Nat → Nat} {ca : Nat → ClassId} {ads : List Nat} (htr : l.stackTraces = false) (hok : xk_ok (kw_h ad ca) ads) {fu : Nat} {u u' : xk_St} {r : (Int32 ⊕ Nat)} (h : fm_Reader_readValueType fu u = some (r, u')) :
    ∀ sz, xk_Met l ⟨"ModuleHouse$Reader", "readValueType", "()I"⟩ (Cond.code ⟨"ModuleHouse$Reader", "readValueType", "()I"⟩ prog_9_method_12_code 1 (some .int) :: xk_gd) rm_Reader_readValueType (xk_Pc D kx_cl (kx_ty ca) (kw_h ad ca) ads xk_F sz [.ref (ad 54)] u) (xk_Qc D kx_cl (kw_h ad ca) ads (xo_i r) u') (xk_A ads sz) := by
  unfold fm_Reader_readValueType at h
  refine xk_con (by decide) htr hok (Nat.le_of_ble_eq_true rfl) (fun p e s m below meth c ls C hne hl hP => ?_)
  have hx := C.1.1
  have hb := C.1.2.1
  have hS : va_S (xk_A ads s.heap.size) s.heap s.heap [] := va_S.rf
  have hl : lv_has ls 1 [(0, .ref (ad 54))] := hl
  refine lv_aload_n hx hb dd_Reader_readValueType_0 rfl (lv_at hl 0 rfl) ?_
  rcases xp_try h with ⟨a1, u2, hq, h⟩ | ⟨kx, ux, hq, h⟩
  rotate_left
  · obtain ⟨rfl, rfl⟩ := xp_q h
    exact xk_up (xr_V (As := []) (rest := []) C hP hS (ct_Reader_readByte htr hok hq) kq_Reader_49 54 7 rfl rfl ⟨rfl, rfl, Nat.le_of_ble_eq_true rfl, Nat.le_of_ble_eq_true rfl⟩ ⟨Nat.le_of_ble_eq_true rfl, Nat.le_of_ble_eq_true rfl⟩ hl.1 rfl rfl (Nat.le_of_ble_eq_true rfl) dd_Reader_readValueType_1) hS hne C.2.2.2.2.2.2.1
  refine xk_goesI (xr_V (As := []) (rest := []) C hP hS (ct_Reader_readByte htr hok hq) kq_Reader_49 54 7 rfl rfl ⟨rfl, rfl, Nat.le_of_ble_eq_true rfl, Nat.le_of_ble_eq_true rfl⟩ ⟨Nat.le_of_ble_eq_true rfl, Nat.le_of_ble_eq_true rfl⟩ hl.1 rfl rfl (Nat.le_of_ble_eq_true rfl) dd_Reader_readValueType_1) hS (fun H locs hP hS => ?_)
  clear hq
  by_cases hc0 : a1 = (99 : Int32)
  · have h := xp_t hc0 h
    refine lv_lookup (off := 76) (tgt := 80) hx hb dd_Reader_readValueType_4 (by decide) (by rw [hc0]; rfl) (by decide) ?_
    refine lv_aload_n hx hb dd_Reader_readValueType_80 rfl (lv_at hl 0 rfl) ?_
    rcases xp_try h with ⟨a3, u4, hq, h⟩ | ⟨kx, ux, hq, h⟩
    rotate_left
    · obtain ⟨rfl, rfl⟩ := xp_q h
      exact xk_up (xr_V (As := []) (rest := []) C hP hS (ct_Reader_readTarget htr hok hq) kq_Reader_130 54 7 rfl rfl ⟨rfl, rfl, Nat.le_of_ble_eq_true rfl, Nat.le_of_ble_eq_true rfl⟩ ⟨Nat.le_of_ble_eq_true rfl, Nat.le_of_ble_eq_true rfl⟩ hl.1 rfl rfl (Nat.le_of_ble_eq_true rfl) dd_Reader_readValueType_81) hS hne C.2.2.2.2.2.2.1
    refine xk_goesI (xr_V (As := []) (rest := []) C hP hS (ct_Reader_readTarget htr hok hq) kq_Reader_130 54 7 rfl rfl ⟨rfl, rfl, Nat.le_of_ble_eq_true rfl, Nat.le_of_ble_eq_true rfl⟩ ⟨Nat.le_of_ble_eq_true rfl, Nat.le_of_ble_eq_true rfl⟩ hl.1 rfl rfl (Nat.le_of_ble_eq_true rfl) dd_Reader_readValueType_81) hS (fun H locs hP hS => ?_)
    clear hq
    refine lv_iconst (v := 1) hx hb dd_Reader_readValueType_84 (by decide) ?_
    obtain ⟨a5, u6, hq, h⟩ := xp_seq h
    refine xk_goesI (xr_S (As := [.int a3, .int (1 : Int32)]) (rest := []) C hP hS (ct_Types_reference htr hok hq) kq_Reader_126 ⟨rfl, rfl, Nat.le_of_ble_eq_true rfl, Nat.le_of_ble_eq_true rfl⟩ ⟨Nat.le_of_ble_eq_true rfl, Nat.le_of_ble_eq_true rfl⟩ hl.1 rfl rfl (Nat.le_of_ble_eq_true rfl) dd_Reader_readValueType_85) hS (fun H locs hP hS => ?_)
    clear hq
    obtain ⟨rfl, rfl⟩ := xp_r h
    exact xr_iret C hP hS dd_Reader_readValueType_88
  have h := xp_f hc0 h
  by_cases hc1 : a1 = (100 : Int32)
  · have h := xp_t hc1 h
    refine lv_lookup (off := 85) (tgt := 89) hx hb dd_Reader_readValueType_4 (by decide) (by rw [hc1]; rfl) (by decide) ?_
    refine lv_aload_n hx hb dd_Reader_readValueType_89 rfl (lv_at hl 0 rfl) ?_
    rcases xp_try h with ⟨a7, u8, hq, h⟩ | ⟨kx, ux, hq, h⟩
    rotate_left
    · obtain ⟨rfl, rfl⟩ := xp_q h
      exact xk_up (xr_V (As := []) (rest := []) C hP hS (ct_Reader_readTarget htr hok hq) kq_Reader_130 54 7 rfl rfl ⟨rfl, rfl, Nat.le_of_ble_eq_true rfl, Nat.le_of_ble_eq_true rfl⟩ ⟨Nat.le_of_ble_eq_true rfl, Nat.le_of_ble_eq_true rfl⟩ hl.1 rfl rfl (Nat.le_of_ble_eq_true rfl) dd_Reader_readValueType_90) hS hne C.2.2.2.2.2.2.1
    refine xk_goesI (xr_V (As := []) (rest := []) C hP hS (ct_Reader_readTarget htr hok hq) kq_Reader_130 54 7 rfl rfl ⟨rfl, rfl, Nat.le_of_ble_eq_true rfl, Nat.le_of_ble_eq_true rfl⟩ ⟨Nat.le_of_ble_eq_true rfl, Nat.le_of_ble_eq_true rfl⟩ hl.1 rfl rfl (Nat.le_of_ble_eq_true rfl) dd_Reader_readValueType_90) hS (fun H locs hP hS => ?_)
    clear hq
    refine lv_iconst (v := 0) hx hb dd_Reader_readValueType_93 (by decide) ?_
    obtain ⟨a9, u10, hq, h⟩ := xp_seq h
    refine xk_goesI (xr_S (As := [.int a7, .int (0 : Int32)]) (rest := []) C hP hS (ct_Types_reference htr hok hq) kq_Reader_126 ⟨rfl, rfl, Nat.le_of_ble_eq_true rfl, Nat.le_of_ble_eq_true rfl⟩ ⟨Nat.le_of_ble_eq_true rfl, Nat.le_of_ble_eq_true rfl⟩ hl.1 rfl rfl (Nat.le_of_ble_eq_true rfl) dd_Reader_readValueType_94) hS (fun H locs hP hS => ?_)
    clear hq
    obtain ⟨rfl, rfl⟩ := xp_r h
    exact xr_iret C hP hS dd_Reader_readValueType_97
  have h := xp_f hc1 h
  by_cases hc2 : a1 = (108 : Int32)
  · have h := xp_t hc2 h
    refine lv_lookup (off := 70) (tgt := 74) hx hb dd_Reader_readValueType_4 (by decide) (by rw [hc2]; rfl) (by decide) ?_
    refine lv_iconst (v := 1) hx hb dd_Reader_readValueType_74 (by decide) ?_
    refine lv_iconst (v := 1) hx hb dd_Reader_readValueType_75 (by decide) ?_
    obtain ⟨a11, u12, hq, h⟩ := xp_seq h
    refine xk_goesI (xr_S (As := [.int (1 : Int32), .int (1 : Int32)]) (rest := []) C hP hS (ct_Types_reference htr hok hq) kq_Reader_126 ⟨rfl, rfl, Nat.le_of_ble_eq_true rfl, Nat.le_of_ble_eq_true rfl⟩ ⟨Nat.le_of_ble_eq_true rfl, Nat.le_of_ble_eq_true rfl⟩ hl.1 rfl rfl (Nat.le_of_ble_eq_true rfl) dd_Reader_readValueType_76) hS (fun H locs hP hS => ?_)
    clear hq
    obtain ⟨rfl, rfl⟩ := xp_r h
    exact xr_iret C hP hS dd_Reader_readValueType_79
  have h := xp_f hc2 h
  by_cases hc3 : a1 = (109 : Int32)
  · have h := xp_t hc3 h
    refine lv_lookup (off := 64) (tgt := 68) hx hb dd_Reader_readValueType_4 (by decide) (by rw [hc3]; rfl) (by decide) ?_
    refine lv_iconst (v := 0) hx hb dd_Reader_readValueType_68 (by decide) ?_
    refine lv_iconst (v := 1) hx hb dd_Reader_readValueType_69 (by decide) ?_
    obtain ⟨a13, u14, hq, h⟩ := xp_seq h
    refine xk_goesI (xr_S (As := [.int (0 : Int32), .int (1 : Int32)]) (rest := []) C hP hS (ct_Types_reference htr hok hq) kq_Reader_126 ⟨rfl, rfl, Nat.le_of_ble_eq_true rfl, Nat.le_of_ble_eq_true rfl⟩ ⟨Nat.le_of_ble_eq_true rfl, Nat.le_of_ble_eq_true rfl⟩ hl.1 rfl rfl (Nat.le_of_ble_eq_true rfl) dd_Reader_readValueType_70) hS (fun H locs hP hS => ?_)
    clear hq
    obtain ⟨rfl, rfl⟩ := xp_r h
    exact xr_iret C hP hS dd_Reader_readValueType_73
  have h := xp_f hc3 h
  by_cases hc4 : a1 = (126 : Int32)
  · have h := xp_t hc4 h
    refine lv_lookup (off := 62) (tgt := 66) hx hb dd_Reader_readValueType_4 (by decide) (by rw [hc4]; rfl) (by decide) ?_
    refine lv_iconst (v := 2) hx hb dd_Reader_readValueType_66 (by decide) ?_
    obtain ⟨rfl, rfl⟩ := xp_r h
    exact xr_iret C hP hS dd_Reader_readValueType_67
  have h := xp_f hc4 h
  by_cases hc5 : a1 = (127 : Int32)
  · have h := xp_t hc5 h
    refine lv_lookup (off := 60) (tgt := 64) hx hb dd_Reader_readValueType_4 (by decide) (by rw [hc5]; rfl) (by decide) ?_
    refine lv_iconst (v := 1) hx hb dd_Reader_readValueType_64 (by decide) ?_
    obtain ⟨rfl, rfl⟩ := xp_r h
    exact xr_iret C hP hS dd_Reader_readValueType_65
  have h := xp_f hc5 h
  refine lv_lookup (off := 94) (tgt := 98) hx hb dd_Reader_readValueType_4 (by decide) ((lv_osw hc0 (by decide)).trans ((lv_osw hc1 (by decide)).trans ((lv_osw hc2 (by decide)).trans ((lv_osw hc3 (by decide)).trans ((lv_osw hc4 (by decide)).trans ((lv_osw hc5 (by decide)).trans rfl)))))) (by decide) ?_
  obtain ⟨rfl, rfl⟩ := xp_r h
  exact xr_throw C hP hS hne kz_Reader_0 hl.1 ⟨Nat.le_of_ble_eq_true rfl, Nat.le_of_ble_eq_true rfl, Nat.le_of_ble_eq_true rfl, Nat.le_of_ble_eq_true rfl⟩ dd_Reader_readValueType_98 dd_Reader_readValueType_101 dd_Reader_readValueType_102 dd_Reader_readValueType_105
abbrev rm_Reader_readFields : Room := { frames := 9, cells := 1, slots := 6, locals := 171 }
noncomputable def jb_Reader_readFields_84 (fu : Nat) (k12 : Int32 → Int32 → Int32 → xk_St → Option ((Unit ⊕ Nat) × xk_St)) (b1 : Int32) (b2 : Int32) (b3 : Int32) (u : xk_St) : Option ((Unit ⊕ Nat) × xk_St) :=
  (xs_try (fm_Reader_readFlag u) fun a6 u7 => xs_seq (fm_Types_setOutcome b1 b3 a6 u7) fun _ u8 => xs_let (b3 + (1 : Int32)) fun a9 => k12 b1 b2 a9 u8)
noncomputable def jb_Reader_readFields_65 (fu : Nat) (k12 : Int32 → Int32 → Int32 → xk_St → Option ((Unit ⊕ Nat) × xk_St)) (b1 : Int32) (b2 : Int32) (b3 : Int32) (s0 : Int32) (s1 : Int32) (s2 : Int32) (u : xk_St) : Option ((Unit ⊕ Nat) × xk_St) :=
  (xs_seq (fm_Types_setMember s2 s1 s0 u) fun _ u5 => jb_Reader_readFields_84 fu k12 b1 b2 b3 u5)
noncomputable def jb_Reader_readFields_37 (fu : Nat) (k12 : Int32 → Int32 → Int32 → xk_St → Option ((Unit ⊕ Nat) × xk_St)) (b1 : Int32) (b2 : Int32) (b3 : Int32) (b4 : Int32) (u : xk_St) : Option ((Unit ⊕ Nat) × xk_St) :=
  (xs_let (xs_I u 17 ((u.1 17) + (1 : Int32))) fun u4 => if b4 = (120 : Int32) then (jb_Reader_readFields_65 fu k12 b1 b2 b3 (3 : Int32) b3 b1 u4) else (jb_Reader_readFields_65 fu k12 b1 b2 b3 (4 : Int32) b3 b1 u4))
noncomputable def jb_Reader_readFields_12 (fu : Nat) : Nat → Int32 → Int32 → Int32 → xk_St → Option ((Unit ⊕ Nat) × xk_St)
  | 0 => fun _ _ _ _ => none
  | n + 1 => fun b1 b2 b3 u =>
    xs_let (jb_Reader_readFields_12 fu  n) fun k12 =>
    if b2 ≤ b3 then (some (.inl (()), u)) else ((xs_try (fm_Reader_peekByte u) fun a2 u3 => if a2 = (120 : Int32) then (jb_Reader_readFields_37 fu k12 b1 b2 b3 a2 u3) else (if a2 = (119 : Int32) then (jb_Reader_readFields_37 fu k12 b1 b2 b3 a2 u3) else ((xs_try (fm_Reader_readValueType fu u3) fun a10 u11 => xs_seq (fm_Types_setMember b1 b3 a10 u11) fun _ u12 => jb_Reader_readFields_84 fu k12 b1 b2 b3 u12)))))
noncomputable def fm_Reader_readFields (fu : Nat) (x0 : Int32) (x1 : Int32) (u : xk_St) : Option ((Unit ⊕ Nat) × xk_St) :=
  (if x0 < 0 ∨ 65 ≤ x0.toNatClampNeg then none else xs_let (xs_A u 3 x0.toNatClampNeg x1) fun u1 => jb_Reader_readFields_12 fu fu x0 x1 (0 : Int32) u1)
set_option maxHeartbeats 4000000 in
set_option maxRecDepth 100000 in
theorem wj_Reader_readFields_84 {p : Program} {l : Launch} {e : Env} {s : State} {m : MethodId} {args : Array Value} {below : List Frame} {meth : Method} {c : Code} {D : va_G} {ad : Nat → Nat} {ca : Nat → ClassId} {ads : List Nat} {fu : Nat} (htr : l.stackTraces = false) (C : xk_C D kx_cl (kx_ty ca) (kw_h ad ca) ads "ModuleHouse$Reader" prog_9_method_16_code 5 none p e s m args meth c) (hne : c.exceptionTable.isEmpty = true) {u' : xk_St} {r : (Unit ⊕ Nat)} {k12 : Int32 → Int32 → Int32 → xk_St → Option ((Unit ⊕ Nat) × xk_St)} (hk12 : ∀ (c0 : Int32) (c1 : Int32) (c2 : Int32) (u : xk_St) (H : Heap) (locs : List Loc) (ls : Array Slot), k12 c0 c1 c2 u = some (r, u') → va_P D kx_cl (kw_h ad ca u) H → va_S (xk_A ads s.heap.size) s.heap H locs → lv_has ls 5 [(0, .ref (ad 54)), (1, .int c0), (2, .int c1), (3, .int c2)] → W p l e rm_Reader_readFields s m args below meth c H locs 0 0 (xk_MQ below (xk_Qc D kx_cl (kw_h ad ca) ads (xo_v r) u') args s (xk_A ads s.heap.size)) (F0 m 12 ls [])) {b1 : Int32} {b2 : Int32} {b3 : Int32} {u : xk_St} {H : Heap} {locs : List Loc} {ls : Array Slot} (h : jb_Reader_readFields_84 fu k12 b1 b2 b3 u = some (r, u')) (hP : va_P D kx_cl (kw_h ad ca u) H) (hS : va_S (xk_A ads s.heap.size) s.heap H locs) (hl : lv_has ls 5 [(0, .ref (ad 54)), (1, .int b1), (2, .int b2), (3, .int b3)]) : W p l e rm_Reader_readFields s m args below meth c H locs 0 0 (xk_MQ below (xk_Qc D kx_cl (kw_h ad ca) ads (xo_v r) u') args s (xk_A ads s.heap.size)) (F0 m 84 ls []) := by
  have hx := C.1.1
  have hb := C.1.2.1
  have hok := C.2.2.1
  unfold jb_Reader_readFields_84 at h
  refine lv_aload_n hx hb dd_Reader_readFields_84 rfl (lv_at hl 0 rfl) ?_
  refine gf_h_Reader_54_types C hP dd_Reader_readFields_85 ?_
  refine lv_iload_n hx hb dd_Reader_readFields_88 rfl (lv_at hl 1 rfl) ?_
  refine lv_iload_n hx hb dd_Reader_readFields_89 rfl (lv_at hl 3 rfl) ?_
  refine lv_aload_n hx hb dd_Reader_readFields_90 rfl (lv_at hl 0 rfl) ?_
  rcases xp_try h with ⟨a6, u7, hq, h⟩ | ⟨kx, ux, hq, h⟩
  rotate_left
  · obtain ⟨rfl, rfl⟩ := xp_q h
    exact xk_up (xr_V (As := []) (rest := [.int b3, .int b1, .ref (ad 6)]) C hP hS (ct_Reader_readFlag htr hok hq) kq_Reader_165 54 7 rfl rfl ⟨rfl, rfl, Nat.le_of_ble_eq_true rfl, Nat.le_of_ble_eq_true rfl⟩ ⟨Nat.le_of_ble_eq_true rfl, Nat.le_of_ble_eq_true rfl⟩ hl.1 rfl rfl (Nat.le_of_ble_eq_true rfl) dd_Reader_readFields_91) hS hne C.2.2.2.2.2.2.1
  refine xk_goesI (xr_V (As := []) (rest := [.int b3, .int b1, .ref (ad 6)]) C hP hS (ct_Reader_readFlag htr hok hq) kq_Reader_165 54 7 rfl rfl ⟨rfl, rfl, Nat.le_of_ble_eq_true rfl, Nat.le_of_ble_eq_true rfl⟩ ⟨Nat.le_of_ble_eq_true rfl, Nat.le_of_ble_eq_true rfl⟩ hl.1 rfl rfl (Nat.le_of_ble_eq_true rfl) dd_Reader_readFields_91) hS (fun H locs hP hS => ?_)
  clear hq
  obtain ⟨rx, u8, hq, h⟩ := xp_seq h
  refine xk_goesV (xr_V (As := [.int b1, .int b3, .int a6]) (rest := []) C hP hS (ct_Types_setOutcome htr hok hq) kq_Reader_162 6 9 rfl rfl ⟨rfl, rfl, Nat.le_of_ble_eq_true rfl, Nat.le_of_ble_eq_true rfl⟩ ⟨Nat.le_of_ble_eq_true rfl, Nat.le_of_ble_eq_true rfl⟩ hl.1 rfl rfl (Nat.le_of_ble_eq_true rfl) dd_Reader_readFields_94) hS (fun H locs hP hS => ?_)
  clear hq
  obtain ⟨a9, ea9, h⟩ := xp_let h
  refine lv_iinc (v := a9) (lv' := [(3, .int a9), (0, .ref (ad 54)), (1, .int b1), (2, .int b2)]) hx hb dd_Reader_readFields_97 hl (k := 3) rfl (by rw [ea9]; first | rfl | decide) (by decide) rfl (fun ls hl => ?_)
  refine lv_goto (tgt := 12) hx hb dd_Reader_readFields_100 (by decide) ?_
  exact hk12 b1 b2 a9 u8 _ _ _ h hP hS (lv_sub hl [1, 2, 3, 0] rfl)
set_option maxHeartbeats 4000000 in
set_option maxRecDepth 100000 in
theorem wj_Reader_readFields_65 {p : Program} {l : Launch} {e : Env} {s : State} {m : MethodId} {args : Array Value} {below : List Frame} {meth : Method} {c : Code} {D : va_G} {ad : Nat → Nat} {ca : Nat → ClassId} {ads : List Nat} {fu : Nat} (htr : l.stackTraces = false) (C : xk_C D kx_cl (kx_ty ca) (kw_h ad ca) ads "ModuleHouse$Reader" prog_9_method_16_code 5 none p e s m args meth c) (hne : c.exceptionTable.isEmpty = true) {u' : xk_St} {r : (Unit ⊕ Nat)} {k12 : Int32 → Int32 → Int32 → xk_St → Option ((Unit ⊕ Nat) × xk_St)} (hk12 : ∀ (c0 : Int32) (c1 : Int32) (c2 : Int32) (u : xk_St) (H : Heap) (locs : List Loc) (ls : Array Slot), k12 c0 c1 c2 u = some (r, u') → va_P D kx_cl (kw_h ad ca u) H → va_S (xk_A ads s.heap.size) s.heap H locs → lv_has ls 5 [(0, .ref (ad 54)), (1, .int c0), (2, .int c1), (3, .int c2)] → W p l e rm_Reader_readFields s m args below meth c H locs 0 0 (xk_MQ below (xk_Qc D kx_cl (kw_h ad ca) ads (xo_v r) u') args s (xk_A ads s.heap.size)) (F0 m 12 ls [])) {b1 : Int32} {b2 : Int32} {b3 : Int32} {s0 : Int32} {s1 : Int32} {s2 : Int32} {u : xk_St} {H : Heap} {locs : List Loc} {ls : Array Slot} (h : jb_Reader_readFields_65 fu k12 b1 b2 b3 s0 s1 s2 u = some (r, u')) (hP : va_P D kx_cl (kw_h ad ca u) H) (hS : va_S (xk_A ads s.heap.size) s.heap H locs) (hl : lv_has ls 5 [(0, .ref (ad 54)), (1, .int b1), (2, .int b2), (3, .int b3)]) : W p l e rm_Reader_readFields s m args below meth c H locs 0 0 (xk_MQ below (xk_Qc D kx_cl (kw_h ad ca) ads (xo_v r) u') args s (xk_A ads s.heap.size)) (F0 m 65 ls [.int s0, .int s1, .int s2, .ref (ad 6)]) := by
  have hx := C.1.1
  have hb := C.1.2.1
  have hok := C.2.2.1
  unfold jb_Reader_readFields_65 at h
  obtain ⟨rx, u5, hq, h⟩ := xp_seq h
  refine xk_goesV (xr_V (As := [.int s2, .int s1, .int s0]) (rest := []) C hP hS (ct_Types_setMember htr hok hq) kq_Reader_158 6 9 rfl rfl ⟨rfl, rfl, Nat.le_of_ble_eq_true rfl, Nat.le_of_ble_eq_true rfl⟩ ⟨Nat.le_of_ble_eq_true rfl, Nat.le_of_ble_eq_true rfl⟩ hl.1 rfl rfl (Nat.le_of_ble_eq_true rfl) dd_Reader_readFields_65) hS (fun H locs hP hS => ?_)
  clear hq
  refine lv_goto (tgt := 84) hx hb dd_Reader_readFields_68 (by decide) ?_
  exact wj_Reader_readFields_84 htr C hne hk12 h hP hS (lv_sub hl [0, 1, 2, 3] rfl)
set_option maxHeartbeats 4000000 in
set_option maxRecDepth 100000 in
theorem wj_Reader_readFields_37 {p : Program} {l : Launch} {e : Env} {s : State} {m : MethodId} {args : Array Value} {below : List Frame} {meth : Method} {c : Code} {D : va_G} {ad : Nat → Nat} {ca : Nat → ClassId} {ads : List Nat} {fu : Nat} (htr : l.stackTraces = false) (C : xk_C D kx_cl (kx_ty ca) (kw_h ad ca) ads "ModuleHouse$Reader" prog_9_method_16_code 5 none p e s m args meth c) (hne : c.exceptionTable.isEmpty = true) {u' : xk_St} {r : (Unit ⊕ Nat)} {k12 : Int32 → Int32 → Int32 → xk_St → Option ((Unit ⊕ Nat) × xk_St)} (hk12 : ∀ (c0 : Int32) (c1 : Int32) (c2 : Int32) (u : xk_St) (H : Heap) (locs : List Loc) (ls : Array Slot), k12 c0 c1 c2 u = some (r, u') → va_P D kx_cl (kw_h ad ca u) H → va_S (xk_A ads s.heap.size) s.heap H locs → lv_has ls 5 [(0, .ref (ad 54)), (1, .int c0), (2, .int c1), (3, .int c2)] → W p l e rm_Reader_readFields s m args below meth c H locs 0 0 (xk_MQ below (xk_Qc D kx_cl (kw_h ad ca) ads (xo_v r) u') args s (xk_A ads s.heap.size)) (F0 m 12 ls [])) {b1 : Int32} {b2 : Int32} {b3 : Int32} {b4 : Int32} {u : xk_St} {H : Heap} {locs : List Loc} {ls : Array Slot} (h : jb_Reader_readFields_37 fu k12 b1 b2 b3 b4 u = some (r, u')) (hP : va_P D kx_cl (kw_h ad ca u) H) (hS : va_S (xk_A ads s.heap.size) s.heap H locs) (hl : lv_has ls 5 [(0, .ref (ad 54)), (1, .int b1), (2, .int b2), (3, .int b3), (4, .int b4)]) : W p l e rm_Reader_readFields s m args below meth c H locs 0 0 (xk_MQ below (xk_Qc D kx_cl (kw_h ad ca) ads (xo_v r) u') args s (xk_A ads s.heap.size)) (F0 m 37 ls []) := by
  have hx := C.1.1
  have hb := C.1.2.1
  have hok := C.2.2.1
  unfold jb_Reader_readFields_37 at h
  refine lv_aload_n hx hb dd_Reader_readFields_37 rfl (lv_at hl 0 rfl) ?_
  refine lv_dup hx hb dd_Reader_readFields_38 rfl ?_
  refine gf_h_Reader_54_next C hP dd_Reader_readFields_39 ?_
  refine lv_iconst (v := 1) hx hb dd_Reader_readFields_42 (by decide) ?_
  refine lv_iadd hx hb dd_Reader_readFields_43 ?_
  refine pf_h_Reader_54_next C hP hS dd_Reader_readFields_44 (fun H locs hP hS => ?_)
  obtain ⟨u4, eu4, h⟩ := xp_let h
  rw [← eu4] at hP
  refine lv_aload_n hx hb dd_Reader_readFields_47 rfl (lv_at hl 0 rfl) ?_
  refine gf_h_Reader_54_types C hP dd_Reader_readFields_48 ?_
  refine lv_iload_n hx hb dd_Reader_readFields_51 rfl (lv_at hl 1 rfl) ?_
  refine lv_iload_n hx hb dd_Reader_readFields_52 rfl (lv_at hl 3 rfl) ?_
  refine lv_iload hx hb dd_Reader_readFields_53 (lv_at hl 4 rfl) ?_
  refine lv_bipush (v := 120) hx hb dd_Reader_readFields_55 (by decide) ?_
  refine lv_icmp_ne (tgt := 64) hx hb dd_Reader_readFields_57 (by decide) (fun hc => ?_) (fun hc => ?_)
  · have h := xp_f hc h
    refine lv_iconst (v := 4) hx hb dd_Reader_readFields_64 (by decide) ?_
    exact wj_Reader_readFields_65 htr C hne hk12 h hP hS (lv_sub hl [0, 1, 2, 3] rfl)
  · have h := xp_t hc h
    refine lv_iconst (v := 3) hx hb dd_Reader_readFields_60 (by decide) ?_
    refine lv_goto (tgt := 65) hx hb dd_Reader_readFields_61 (by decide) ?_
    exact wj_Reader_readFields_65 htr C hne hk12 h hP hS (lv_sub hl [0, 1, 2, 3] rfl)
set_option maxHeartbeats 4000000 in
set_option maxRecDepth 100000 in
theorem wj_Reader_readFields_12 {p : Program} {l : Launch} {e : Env} {s : State} {m : MethodId} {args : Array Value} {below : List Frame} {meth : Method} {c : Code} {D : va_G} {ad : Nat → Nat} {ca : Nat → ClassId} {ads : List Nat} {fu : Nat} (htr : l.stackTraces = false) (C : xk_C D kx_cl (kx_ty ca) (kw_h ad ca) ads "ModuleHouse$Reader" prog_9_method_16_code 5 none p e s m args meth c) (hne : c.exceptionTable.isEmpty = true) {u' : xk_St} {r : (Unit ⊕ Nat)} : ∀ {n : Nat} {b1 : Int32} {b2 : Int32} {b3 : Int32} {u : xk_St} {H : Heap} {locs : List Loc} {ls : Array Slot} (h : jb_Reader_readFields_12 fu  n b1 b2 b3 u = some (r, u')) (hP : va_P D kx_cl (kw_h ad ca u) H) (hS : va_S (xk_A ads s.heap.size) s.heap H locs) (hl : lv_has ls 5 [(0, .ref (ad 54)), (1, .int b1), (2, .int b2), (3, .int b3)]), W p l e rm_Reader_readFields s m args below meth c H locs 0 0 (xk_MQ below (xk_Qc D kx_cl (kw_h ad ca) ads (xo_v r) u') args s (xk_A ads s.heap.size)) (F0 m 12 ls []) := by
  intro n
  have hx := C.1.1
  have hb := C.1.2.1
  have hok := C.2.2.1
  induction n with
  | zero =>
    intro _ _ _ u H locs ls h
    have h : none = some (r, u') := h
    cases h
  | succ n ih =>
    intro b1 b2 b3 u H locs ls h hP hS hl
    unfold jb_Reader_readFields_12 at h
    obtain ⟨k12, ek12, h⟩ := xp_let h
    have hk12 : ∀ (c0 : Int32) (c1 : Int32) (c2 : Int32) (u : xk_St) (H : Heap) (locs : List Loc) (ls : Array Slot), k12 c0 c1 c2 u = some (r, u') → va_P D kx_cl (kw_h ad ca u) H → va_S (xk_A ads s.heap.size) s.heap H locs → lv_has ls 5 [(0, .ref (ad 54)), (1, .int c0), (2, .int c1), (3, .int c2)] → W p l e rm_Reader_readFields s m args below meth c H locs 0 0 (xk_MQ below (xk_Qc D kx_cl (kw_h ad ca) ads (xo_v r) u') args s (xk_A ads s.heap.size)) (F0 m 12 ls []) := by
      intro c0 c1 c2 u H locs ls h hP hS hl
      subst ek12
      exact ih h hP hS hl
    clear ih ek12
    refine lv_iload_n hx hb dd_Reader_readFields_12 rfl (lv_at hl 3 rfl) ?_
    refine lv_iload_n hx hb dd_Reader_readFields_13 rfl (lv_at hl 2 rfl) ?_
    refine lv_icmp_ge (tgt := 103) hx hb dd_Reader_readFields_14 (by decide) (fun hc => ?_) (fun hc => ?_)
    · have h := xp_t hc h
      obtain ⟨rfl, rfl⟩ := xp_r h
      exact xr_vret C hP hS dd_Reader_readFields_103
    · have h := xp_f hc h
      refine lv_aload_n hx hb dd_Reader_readFields_17 rfl (lv_at hl 0 rfl) ?_
      rcases xp_try h with ⟨a2, u3, hq, h⟩ | ⟨kx, ux, hq, h⟩
      rotate_left
      · obtain ⟨rfl, rfl⟩ := xp_q h
        exact xk_up (xr_V (As := []) (rest := []) C hP hS (ct_Reader_peekByte htr hok hq) kq_Reader_115 54 7 rfl rfl ⟨rfl, rfl, Nat.le_of_ble_eq_true rfl, Nat.le_of_ble_eq_true rfl⟩ ⟨Nat.le_of_ble_eq_true rfl, Nat.le_of_ble_eq_true rfl⟩ hl.1 rfl rfl (Nat.le_of_ble_eq_true rfl) dd_Reader_readFields_18) hS hne C.2.2.2.2.2.2.1
      refine xk_goesI (xr_V (As := []) (rest := []) C hP hS (ct_Reader_peekByte htr hok hq) kq_Reader_115 54 7 rfl rfl ⟨rfl, rfl, Nat.le_of_ble_eq_true rfl, Nat.le_of_ble_eq_true rfl⟩ ⟨Nat.le_of_ble_eq_true rfl, Nat.le_of_ble_eq_true rfl⟩ hl.1 rfl rfl (Nat.le_of_ble_eq_true rfl) dd_Reader_readFields_18) hS (fun H locs hP hS => ?_)
      clear hq
      refine lv_istore (lv' := [(4, .int a2), (0, .ref (ad 54)), (1, .int b1), (2, .int b2), (3, .int b3)]) hx hb dd_Reader_readFields_21 hl (by decide) rfl (fun ls hl => ?_)
      refine lv_iload hx hb dd_Reader_readFields_23 (lv_at hl 0 rfl) ?_
      refine lv_bipush (v := 120) hx hb dd_Reader_readFields_25 (by decide) ?_
      refine lv_icmp_eq (tgt := 37) hx hb dd_Reader_readFields_27 (by decide) (fun hc => ?_) (fun hc => ?_)
      · have h := xp_t hc h
        exact wj_Reader_readFields_37 htr C hne hk12 h hP hS (lv_sub hl [1, 2, 3, 4, 0] rfl)
      · have h := xp_f hc h
        refine lv_iload hx hb dd_Reader_readFields_30 (lv_at hl 0 rfl) ?_
        refine lv_bipush (v := 119) hx hb dd_Reader_readFields_32 (by decide) ?_
        refine lv_icmp_ne (tgt := 71) hx hb dd_Reader_readFields_34 (by decide) (fun hc => ?_) (fun hc => ?_)
        · have h := xp_f hc h
          refine lv_aload_n hx hb dd_Reader_readFields_71 rfl (lv_at hl 1 rfl) ?_
          refine gf_h_Reader_54_types C hP dd_Reader_readFields_72 ?_
          refine lv_iload_n hx hb dd_Reader_readFields_75 rfl (lv_at hl 2 rfl) ?_
          refine lv_iload_n hx hb dd_Reader_readFields_76 rfl (lv_at hl 4 rfl) ?_
          refine lv_aload_n hx hb dd_Reader_readFields_77 rfl (lv_at hl 1 rfl) ?_
          rcases xp_try h with ⟨a10, u11, hq, h⟩ | ⟨kx, ux, hq, h⟩
          rotate_left
          · obtain ⟨rfl, rfl⟩ := xp_q h
            exact xk_up (xr_V (As := []) (rest := [.int b3, .int b1, .ref (ad 6)]) C hP hS (ct_Reader_readValueType htr hok hq) kq_Reader_133 54 7 rfl rfl ⟨rfl, rfl, Nat.le_of_ble_eq_true rfl, Nat.le_of_ble_eq_true rfl⟩ ⟨Nat.le_of_ble_eq_true rfl, Nat.le_of_ble_eq_true rfl⟩ hl.1 rfl rfl (Nat.le_of_ble_eq_true rfl) dd_Reader_readFields_78) hS hne C.2.2.2.2.2.2.1
          refine xk_goesI (xr_V (As := []) (rest := [.int b3, .int b1, .ref (ad 6)]) C hP hS (ct_Reader_readValueType htr hok hq) kq_Reader_133 54 7 rfl rfl ⟨rfl, rfl, Nat.le_of_ble_eq_true rfl, Nat.le_of_ble_eq_true rfl⟩ ⟨Nat.le_of_ble_eq_true rfl, Nat.le_of_ble_eq_true rfl⟩ hl.1 rfl rfl (Nat.le_of_ble_eq_true rfl) dd_Reader_readFields_78) hS (fun H locs hP hS => ?_)
          clear hq
          obtain ⟨rx, u12, hq, h⟩ := xp_seq h
          refine xk_goesV (xr_V (As := [.int b1, .int b3, .int a10]) (rest := []) C hP hS (ct_Types_setMember htr hok hq) kq_Reader_158 6 9 rfl rfl ⟨rfl, rfl, Nat.le_of_ble_eq_true rfl, Nat.le_of_ble_eq_true rfl⟩ ⟨Nat.le_of_ble_eq_true rfl, Nat.le_of_ble_eq_true rfl⟩ hl.1 rfl rfl (Nat.le_of_ble_eq_true rfl) dd_Reader_readFields_81) hS (fun H locs hP hS => ?_)
          clear hq
          exact wj_Reader_readFields_84 htr C hne hk12 h hP hS (lv_sub hl [1, 2, 3, 4] rfl)
        · have h := xp_t hc h
          exact wj_Reader_readFields_37 htr C hne hk12 h hP hS (lv_sub hl [1, 2, 3, 4, 0] rfl)
set_option maxHeartbeats 4000000 in
set_option maxRecDepth 100000 in
theorem ct_Reader_readFields {l : Launch} {D : va_G} {ad : Nat → Nat} {ca : Nat → ClassId} {ads : List Nat} (htr : l.stackTraces = false) (hok : xk_ok (kw_h ad ca) ads) {fu : Nat} {x0 : Int32} {x1 : Int32} {u u' : xk_St} {r : (Unit ⊕ Nat)} (h : fm_Reader_readFields fu x0 x1 u = some (r, u')) :
    ∀ sz, xk_Met l ⟨"ModuleHouse$Reader", "readFields", "(II)V"⟩ (Cond.code ⟨"ModuleHouse$Reader", "readFields", "(II)V"⟩ prog_9_method_16_code 5 none :: xk_gd) rm_Reader_readFields (xk_Pc D kx_cl (kx_ty ca) (kw_h ad ca) ads xk_F sz [.ref (ad 54), .int x0, .int x1] u) (xk_Qc D kx_cl (kw_h ad ca) ads (xo_v r) u') (xk_A ads sz) := by
  unfold fm_Reader_readFields at h
  refine xk_con (by decide) htr hok (Nat.le_of_ble_eq_true rfl) (fun p e s m below meth c ls C hne hl hP => ?_)
  have hx := C.1.1
  have hb := C.1.2.1
  have hS : va_S (xk_A ads s.heap.size) s.heap s.heap [] := va_S.rf
  have hl : lv_has ls 5 [(0, .ref (ad 54)), (1, .int x0), (2, .int x1)] := hl
  refine lv_aload_n hx hb dd_Reader_readFields_0 rfl (lv_at hl 0 rfl) ?_
  refine gf_h_Reader_54_types C hP dd_Reader_readFields_1 ?_
  refine gf_h_Reader_6_members C hP dd_Reader_readFields_4 ?_
  refine lv_iload_n hx hb dd_Reader_readFields_7 rfl (lv_at hl 1 rfl) ?_
  refine lv_iload_n hx hb dd_Reader_readFields_8 rfl (lv_at hl 2 rfl) ?_
  obtain ⟨hi, h⟩ := xp_g h
  refine as_h_8 C hP hS hi dd_Reader_readFields_9 (fun H locs hP hS => ?_)
  obtain ⟨u1, eu1, h⟩ := xp_let h
  rw [← eu1] at hP
  refine lv_iconst (v := 0) hx hb dd_Reader_readFields_10 (by decide) ?_
  refine lv_istore_n (lv' := [(3, .int (0 : Int32)), (0, .ref (ad 54)), (1, .int x0), (2, .int x1)]) hx hb dd_Reader_readFields_11 rfl hl (by decide) rfl (fun ls hl => ?_)
  exact wj_Reader_readFields_12 htr C hne h hP hS (lv_sub hl [1, 2, 3, 0] rfl)
abbrev rm_Reader_readSignature : Room := { frames := 9, cells := 1, slots := 6, locals := 171 }
noncomputable def jb_Reader_readSignature_59 (fu : Nat) : Nat → Int32 → Int32 → Int32 → xk_St → Option ((Unit ⊕ Nat) × xk_St)
  | 0 => fun _ _ _ _ => none
  | n + 1 => fun b1 b3 b4 u =>
    xs_let (jb_Reader_readSignature_59 fu  n) fun k59 =>
    if b3 ≤ b4 then (some (.inl (()), u)) else ((xs_try (fm_Reader_readValueType fu u) fun a7 u8 => xs_seq (fm_Types_setOutcome b1 b4 a7 u8) fun _ u9 => xs_let (b4 + (1 : Int32)) fun a10 => k59 b1 b3 a10 u9))
noncomputable def jb_Reader_readSignature_17 (fu : Nat) : Nat → Int32 → Int32 → Int32 → xk_St → Option ((Unit ⊕ Nat) × xk_St)
  | 0 => fun _ _ _ _ => none
  | n + 1 => fun b1 b2 b3 u =>
    xs_let (jb_Reader_readSignature_17 fu  n) fun k17 =>
    if b2 ≤ b3 then ((xs_try (fm_Reader_readNumber fu u) fun a4 u5 => if b1 < 0 ∨ 65 ≤ b1.toNatClampNeg then none else xs_let (xs_A u5 4 b1.toNatClampNeg a4) fun u6 => jb_Reader_readSignature_59 fu fu b1 a4 (0 : Int32) u6)) else ((xs_try (fm_Reader_readValueType fu u) fun a11 u12 => xs_seq (fm_Types_setMember b1 b3 a11 u12) fun _ u13 => xs_let (b3 + (1 : Int32)) fun a14 => k17 b1 b2 a14 u13))
noncomputable def fm_Reader_readSignature (fu : Nat) (x0 : Int32) (u : xk_St) : Option ((Unit ⊕ Nat) × xk_St) :=
  (xs_try (fm_Reader_readNumber fu u) fun a1 u2 => if x0 < 0 ∨ 65 ≤ x0.toNatClampNeg then none else xs_let (xs_A u2 3 x0.toNatClampNeg a1) fun u3 => jb_Reader_readSignature_17 fu fu x0 a1 (0 : Int32) u3)
set_option maxHeartbeats 4000000 in
set_option maxRecDepth 100000 in
theorem wj_Reader_readSignature_59 {p : Program} {l : Launch} {e : Env} {s : State} {m : MethodId} {args : Array Value} {below : List Frame} {meth : Method} {c : Code} {D : va_G} {ad : Nat → Nat} {ca : Nat → ClassId} {ads : List Nat} {fu : Nat} (htr : l.stackTraces = false) (C : xk_C D kx_cl (kx_ty ca) (kw_h ad ca) ads "ModuleHouse$Reader" prog_9_method_15_code 5 none p e s m args meth c) (hne : c.exceptionTable.isEmpty = true) {u' : xk_St} {r : (Unit ⊕ Nat)} : ∀ {n : Nat} {b1 : Int32} {b3 : Int32} {b4 : Int32} {u : xk_St} {H : Heap} {locs : List Loc} {ls : Array Slot} (h : jb_Reader_readSignature_59 fu  n b1 b3 b4 u = some (r, u')) (hP : va_P D kx_cl (kw_h ad ca u) H) (hS : va_S (xk_A ads s.heap.size) s.heap H locs) (hl : lv_has ls 5 [(0, .ref (ad 54)), (1, .int b1), (3, .int b3), (4, .int b4)]), W p l e rm_Reader_readSignature s m args below meth c H locs 0 0 (xk_MQ below (xk_Qc D kx_cl (kw_h ad ca) ads (xo_v r) u') args s (xk_A ads s.heap.size)) (F0 m 59 ls []) := by
  intro n
  have hx := C.1.1
  have hb := C.1.2.1
  have hok := C.2.2.1
  induction n with
  | zero =>
    intro _ _ _ u H locs ls h
    have h : none = some (r, u') := h
    cases h
  | succ n ih =>
    intro b1 b3 b4 u H locs ls h hP hS hl
    unfold jb_Reader_readSignature_59 at h
    obtain ⟨k59, ek59, h⟩ := xp_let h
    have hk59 : ∀ (c0 : Int32) (c1 : Int32) (c2 : Int32) (u : xk_St) (H : Heap) (locs : List Loc) (ls : Array Slot), k59 c0 c1 c2 u = some (r, u') → va_P D kx_cl (kw_h ad ca u) H → va_S (xk_A ads s.heap.size) s.heap H locs → lv_has ls 5 [(0, .ref (ad 54)), (1, .int c0), (3, .int c1), (4, .int c2)] → W p l e rm_Reader_readSignature s m args below meth c H locs 0 0 (xk_MQ below (xk_Qc D kx_cl (kw_h ad ca) ads (xo_v r) u') args s (xk_A ads s.heap.size)) (F0 m 59 ls []) := by
      intro c0 c1 c2 u H locs ls h hP hS hl
      subst ek59
      exact ih h hP hS hl
    clear ih ek59
    refine lv_iload hx hb dd_Reader_readSignature_59 (lv_at hl 3 rfl) ?_
    refine lv_iload_n hx hb dd_Reader_readSignature_61 rfl (lv_at hl 2 rfl) ?_
    refine lv_icmp_ge (tgt := 85) hx hb dd_Reader_readSignature_62 (by decide) (fun hc => ?_) (fun hc => ?_)
    · have h := xp_t hc h
      obtain ⟨rfl, rfl⟩ := xp_r h
      exact xr_vret C hP hS dd_Reader_readSignature_85
    · have h := xp_f hc h
      refine lv_aload_n hx hb dd_Reader_readSignature_65 rfl (lv_at hl 0 rfl) ?_
      refine gf_h_Reader_54_types C hP dd_Reader_readSignature_66 ?_
      refine lv_iload_n hx hb dd_Reader_readSignature_69 rfl (lv_at hl 1 rfl) ?_
      refine lv_iload hx hb dd_Reader_readSignature_70 (lv_at hl 3 rfl) ?_
      refine lv_aload_n hx hb dd_Reader_readSignature_72 rfl (lv_at hl 0 rfl) ?_
      rcases xp_try h with ⟨a7, u8, hq, h⟩ | ⟨kx, ux, hq, h⟩
      rotate_left
      · obtain ⟨rfl, rfl⟩ := xp_q h
        exact xk_up (xr_V (As := []) (rest := [.int b4, .int b1, .ref (ad 6)]) C hP hS (ct_Reader_readValueType htr hok hq) kq_Reader_133 54 7 rfl rfl ⟨rfl, rfl, Nat.le_of_ble_eq_true rfl, Nat.le_of_ble_eq_true rfl⟩ ⟨Nat.le_of_ble_eq_true rfl, Nat.le_of_ble_eq_true rfl⟩ hl.1 rfl rfl (Nat.le_of_ble_eq_true rfl) dd_Reader_readSignature_73) hS hne C.2.2.2.2.2.2.1
      refine xk_goesI (xr_V (As := []) (rest := [.int b4, .int b1, .ref (ad 6)]) C hP hS (ct_Reader_readValueType htr hok hq) kq_Reader_133 54 7 rfl rfl ⟨rfl, rfl, Nat.le_of_ble_eq_true rfl, Nat.le_of_ble_eq_true rfl⟩ ⟨Nat.le_of_ble_eq_true rfl, Nat.le_of_ble_eq_true rfl⟩ hl.1 rfl rfl (Nat.le_of_ble_eq_true rfl) dd_Reader_readSignature_73) hS (fun H locs hP hS => ?_)
      clear hq
      obtain ⟨rx, u9, hq, h⟩ := xp_seq h
      refine xk_goesV (xr_V (As := [.int b1, .int b4, .int a7]) (rest := []) C hP hS (ct_Types_setOutcome htr hok hq) kq_Reader_162 6 9 rfl rfl ⟨rfl, rfl, Nat.le_of_ble_eq_true rfl, Nat.le_of_ble_eq_true rfl⟩ ⟨Nat.le_of_ble_eq_true rfl, Nat.le_of_ble_eq_true rfl⟩ hl.1 rfl rfl (Nat.le_of_ble_eq_true rfl) dd_Reader_readSignature_76) hS (fun H locs hP hS => ?_)
      clear hq
      obtain ⟨a10, ea10, h⟩ := xp_let h
      refine lv_iinc (v := a10) (lv' := [(4, .int a10), (0, .ref (ad 54)), (1, .int b1), (3, .int b3)]) hx hb dd_Reader_readSignature_79 hl (k := 3) rfl (by rw [ea10]; first | rfl | decide) (by decide) rfl (fun ls hl => ?_)
      refine lv_goto (tgt := 59) hx hb dd_Reader_readSignature_82 (by decide) ?_
      exact hk59 b1 b3 a10 u9 _ _ _ h hP hS (lv_sub hl [1, 2, 3, 0] rfl)
set_option maxHeartbeats 4000000 in
set_option maxRecDepth 100000 in
theorem wj_Reader_readSignature_17 {p : Program} {l : Launch} {e : Env} {s : State} {m : MethodId} {args : Array Value} {below : List Frame} {meth : Method} {c : Code} {D : va_G} {ad : Nat → Nat} {ca : Nat → ClassId} {ads : List Nat} {fu : Nat} (htr : l.stackTraces = false) (C : xk_C D kx_cl (kx_ty ca) (kw_h ad ca) ads "ModuleHouse$Reader" prog_9_method_15_code 5 none p e s m args meth c) (hne : c.exceptionTable.isEmpty = true) {u' : xk_St} {r : (Unit ⊕ Nat)} : ∀ {n : Nat} {b1 : Int32} {b2 : Int32} {b3 : Int32} {u : xk_St} {H : Heap} {locs : List Loc} {ls : Array Slot} (h : jb_Reader_readSignature_17 fu  n b1 b2 b3 u = some (r, u')) (hP : va_P D kx_cl (kw_h ad ca u) H) (hS : va_S (xk_A ads s.heap.size) s.heap H locs) (hl : lv_has ls 5 [(0, .ref (ad 54)), (1, .int b1), (2, .int b2), (3, .int b3)]), W p l e rm_Reader_readSignature s m args below meth c H locs 0 0 (xk_MQ below (xk_Qc D kx_cl (kw_h ad ca) ads (xo_v r) u') args s (xk_A ads s.heap.size)) (F0 m 17 ls []) := by
  intro n
  have hx := C.1.1
  have hb := C.1.2.1
  have hok := C.2.2.1
  induction n with
  | zero =>
    intro _ _ _ u H locs ls h
    have h : none = some (r, u') := h
    cases h
  | succ n ih =>
    intro b1 b2 b3 u H locs ls h hP hS hl
    unfold jb_Reader_readSignature_17 at h
    obtain ⟨k17, ek17, h⟩ := xp_let h
    have hk17 : ∀ (c0 : Int32) (c1 : Int32) (c2 : Int32) (u : xk_St) (H : Heap) (locs : List Loc) (ls : Array Slot), k17 c0 c1 c2 u = some (r, u') → va_P D kx_cl (kw_h ad ca u) H → va_S (xk_A ads s.heap.size) s.heap H locs → lv_has ls 5 [(0, .ref (ad 54)), (1, .int c0), (2, .int c1), (3, .int c2)] → W p l e rm_Reader_readSignature s m args below meth c H locs 0 0 (xk_MQ below (xk_Qc D kx_cl (kw_h ad ca) ads (xo_v r) u') args s (xk_A ads s.heap.size)) (F0 m 17 ls []) := by
      intro c0 c1 c2 u H locs ls h hP hS hl
      subst ek17
      exact ih h hP hS hl
    clear ih ek17
    refine lv_iload_n hx hb dd_Reader_readSignature_17 rfl (lv_at hl 3 rfl) ?_
    refine lv_iload_n hx hb dd_Reader_readSignature_18 rfl (lv_at hl 2 rfl) ?_
    refine lv_icmp_ge (tgt := 41) hx hb dd_Reader_readSignature_19 (by decide) (fun hc => ?_) (fun hc => ?_)
    · have h := xp_t hc h
      refine lv_aload_n hx hb dd_Reader_readSignature_41 rfl (lv_at hl 0 rfl) ?_
      rcases xp_try h with ⟨a4, u5, hq, h⟩ | ⟨kx, ux, hq, h⟩
      rotate_left
      · obtain ⟨rfl, rfl⟩ := xp_q h
        exact xk_up (xr_V (As := []) (rest := []) C hP hS (ct_Reader_readNumber htr hok hq) kq_Reader_78 54 7 rfl rfl ⟨rfl, rfl, Nat.le_of_ble_eq_true rfl, Nat.le_of_ble_eq_true rfl⟩ ⟨Nat.le_of_ble_eq_true rfl, Nat.le_of_ble_eq_true rfl⟩ hl.1 rfl rfl (Nat.le_of_ble_eq_true rfl) dd_Reader_readSignature_42) hS hne C.2.2.2.2.2.2.1
      refine xk_goesI (xr_V (As := []) (rest := []) C hP hS (ct_Reader_readNumber htr hok hq) kq_Reader_78 54 7 rfl rfl ⟨rfl, rfl, Nat.le_of_ble_eq_true rfl, Nat.le_of_ble_eq_true rfl⟩ ⟨Nat.le_of_ble_eq_true rfl, Nat.le_of_ble_eq_true rfl⟩ hl.1 rfl rfl (Nat.le_of_ble_eq_true rfl) dd_Reader_readSignature_42) hS (fun H locs hP hS => ?_)
      clear hq
      refine lv_istore_n (lv' := [(3, .int a4), (0, .ref (ad 54)), (1, .int b1), (2, .int b2)]) hx hb dd_Reader_readSignature_45 rfl hl (by decide) rfl (fun ls hl => ?_)
      refine lv_aload_n hx hb dd_Reader_readSignature_46 rfl (lv_at hl 1 rfl) ?_
      refine gf_h_Reader_54_types C hP dd_Reader_readSignature_47 ?_
      refine gf_h_Reader_6_results C hP dd_Reader_readSignature_50 ?_
      refine lv_iload_n hx hb dd_Reader_readSignature_53 rfl (lv_at hl 2 rfl) ?_
      refine lv_iload_n hx hb dd_Reader_readSignature_54 rfl (lv_at hl 0 rfl) ?_
      obtain ⟨hi, h⟩ := xp_g h
      refine as_h_9 C hP hS hi dd_Reader_readSignature_55 (fun H locs hP hS => ?_)
      obtain ⟨u6, eu6, h⟩ := xp_let h
      rw [← eu6] at hP
      refine lv_iconst (v := 0) hx hb dd_Reader_readSignature_56 (by decide) ?_
      refine lv_istore (lv' := [(4, .int (0 : Int32)), (3, .int a4), (0, .ref (ad 54)), (1, .int b1), (2, .int b2)]) hx hb dd_Reader_readSignature_57 hl (by decide) rfl (fun ls hl => ?_)
      exact wj_Reader_readSignature_59 htr C hne h hP hS (lv_sub hl [2, 3, 1, 0] rfl)
    · have h := xp_f hc h
      refine lv_aload_n hx hb dd_Reader_readSignature_22 rfl (lv_at hl 0 rfl) ?_
      refine gf_h_Reader_54_types C hP dd_Reader_readSignature_23 ?_
      refine lv_iload_n hx hb dd_Reader_readSignature_26 rfl (lv_at hl 1 rfl) ?_
      refine lv_iload_n hx hb dd_Reader_readSignature_27 rfl (lv_at hl 3 rfl) ?_
      refine lv_aload_n hx hb dd_Reader_readSignature_28 rfl (lv_at hl 0 rfl) ?_
      rcases xp_try h with ⟨a11, u12, hq, h⟩ | ⟨kx, ux, hq, h⟩
      rotate_left
      · obtain ⟨rfl, rfl⟩ := xp_q h
        exact xk_up (xr_V (As := []) (rest := [.int b3, .int b1, .ref (ad 6)]) C hP hS (ct_Reader_readValueType htr hok hq) kq_Reader_133 54 7 rfl rfl ⟨rfl, rfl, Nat.le_of_ble_eq_true rfl, Nat.le_of_ble_eq_true rfl⟩ ⟨Nat.le_of_ble_eq_true rfl, Nat.le_of_ble_eq_true rfl⟩ hl.1 rfl rfl (Nat.le_of_ble_eq_true rfl) dd_Reader_readSignature_29) hS hne C.2.2.2.2.2.2.1
      refine xk_goesI (xr_V (As := []) (rest := [.int b3, .int b1, .ref (ad 6)]) C hP hS (ct_Reader_readValueType htr hok hq) kq_Reader_133 54 7 rfl rfl ⟨rfl, rfl, Nat.le_of_ble_eq_true rfl, Nat.le_of_ble_eq_true rfl⟩ ⟨Nat.le_of_ble_eq_true rfl, Nat.le_of_ble_eq_true rfl⟩ hl.1 rfl rfl (Nat.le_of_ble_eq_true rfl) dd_Reader_readSignature_29) hS (fun H locs hP hS => ?_)
      clear hq
      obtain ⟨rx, u13, hq, h⟩ := xp_seq h
      refine xk_goesV (xr_V (As := [.int b1, .int b3, .int a11]) (rest := []) C hP hS (ct_Types_setMember htr hok hq) kq_Reader_158 6 9 rfl rfl ⟨rfl, rfl, Nat.le_of_ble_eq_true rfl, Nat.le_of_ble_eq_true rfl⟩ ⟨Nat.le_of_ble_eq_true rfl, Nat.le_of_ble_eq_true rfl⟩ hl.1 rfl rfl (Nat.le_of_ble_eq_true rfl) dd_Reader_readSignature_32) hS (fun H locs hP hS => ?_)
      clear hq
      obtain ⟨a14, ea14, h⟩ := xp_let h
      refine lv_iinc (v := a14) (lv' := [(3, .int a14), (0, .ref (ad 54)), (1, .int b1), (2, .int b2)]) hx hb dd_Reader_readSignature_35 hl (k := 3) rfl (by rw [ea14]; first | rfl | decide) (by decide) rfl (fun ls hl => ?_)
      refine lv_goto (tgt := 17) hx hb dd_Reader_readSignature_38 (by decide) ?_
      exact hk17 b1 b2 a14 u13 _ _ _ h hP hS (lv_sub hl [1, 2, 3, 0] rfl)
set_option maxHeartbeats 4000000 in
set_option maxRecDepth 100000 in
theorem ct_Reader_readSignature {l : Launch} {D : va_G} {ad : Nat → Nat} {ca : Nat → ClassId} {ads : List Nat} (htr : l.stackTraces = false) (hok : xk_ok (kw_h ad ca) ads) {fu : Nat} {x0 : Int32} {u u' : xk_St} {r : (Unit ⊕ Nat)} (h : fm_Reader_readSignature fu x0 u = some (r, u')) :
    ∀ sz, xk_Met l ⟨"ModuleHouse$Reader", "readSignature", "(I)V"⟩ (Cond.code ⟨"ModuleHouse$Reader", "readSignature", "(I)V"⟩ prog_9_method_15_code 5 none :: xk_gd) rm_Reader_readSignature (xk_Pc D kx_cl (kx_ty ca) (kw_h ad ca) ads xk_F sz [.ref (ad 54), .int x0] u) (xk_Qc D kx_cl (kw_h ad ca) ads (xo_v r) u') (xk_A ads sz) := by
  unfold fm_Reader_readSignature at h
  refine xk_con (by decide) htr hok (Nat.le_of_ble_eq_true rfl) (fun p e s m below meth c ls C hne hl hP => ?_)
  have hx := C.1.1
  have hb := C.1.2.1
  have hS : va_S (xk_A ads s.heap.size) s.heap s.heap [] := va_S.rf
  have hl : lv_has ls 5 [(0, .ref (ad 54)), (1, .int x0)] := hl
  refine lv_aload_n hx hb dd_Reader_readSignature_0 rfl (lv_at hl 0 rfl) ?_
  rcases xp_try h with ⟨a1, u2, hq, h⟩ | ⟨kx, ux, hq, h⟩
  rotate_left
  · obtain ⟨rfl, rfl⟩ := xp_q h
    exact xk_up (xr_V (As := []) (rest := []) C hP hS (ct_Reader_readNumber htr hok hq) kq_Reader_78 54 7 rfl rfl ⟨rfl, rfl, Nat.le_of_ble_eq_true rfl, Nat.le_of_ble_eq_true rfl⟩ ⟨Nat.le_of_ble_eq_true rfl, Nat.le_of_ble_eq_true rfl⟩ hl.1 rfl rfl (Nat.le_of_ble_eq_true rfl) dd_Reader_readSignature_1) hS hne C.2.2.2.2.2.2.1
  refine xk_goesI (xr_V (As := []) (rest := []) C hP hS (ct_Reader_readNumber htr hok hq) kq_Reader_78 54 7 rfl rfl ⟨rfl, rfl, Nat.le_of_ble_eq_true rfl, Nat.le_of_ble_eq_true rfl⟩ ⟨Nat.le_of_ble_eq_true rfl, Nat.le_of_ble_eq_true rfl⟩ hl.1 rfl rfl (Nat.le_of_ble_eq_true rfl) dd_Reader_readSignature_1) hS (fun H locs hP hS => ?_)
  clear hq
  refine lv_istore_n (lv' := [(2, .int a1), (0, .ref (ad 54)), (1, .int x0)]) hx hb dd_Reader_readSignature_4 rfl hl (by decide) rfl (fun ls hl => ?_)
  refine lv_aload_n hx hb dd_Reader_readSignature_5 rfl (lv_at hl 1 rfl) ?_
  refine gf_h_Reader_54_types C hP dd_Reader_readSignature_6 ?_
  refine gf_h_Reader_6_members C hP dd_Reader_readSignature_9 ?_
  refine lv_iload_n hx hb dd_Reader_readSignature_12 rfl (lv_at hl 2 rfl) ?_
  refine lv_iload_n hx hb dd_Reader_readSignature_13 rfl (lv_at hl 0 rfl) ?_
  obtain ⟨hi, h⟩ := xp_g h
  refine as_h_8 C hP hS hi dd_Reader_readSignature_14 (fun H locs hP hS => ?_)
  obtain ⟨u3, eu3, h⟩ := xp_let h
  rw [← eu3] at hP
  refine lv_iconst (v := 0) hx hb dd_Reader_readSignature_15 (by decide) ?_
  refine lv_istore_n (lv' := [(3, .int (0 : Int32)), (2, .int a1), (0, .ref (ad 54)), (1, .int x0)]) hx hb dd_Reader_readSignature_16 rfl hl (by decide) rfl (fun ls hl => ?_)
  exact wj_Reader_readSignature_17 htr C hne h hP hS (lv_sub hl [2, 3, 1, 0] rfl)
abbrev rm_Reader_readTypes : Room := { frames := 10, cells := 1, slots := 6, locals := 195 }
noncomputable def jb_Reader_readTypes_121 (fu : Nat) (k15 : Int32 → Int32 → xk_St → Option ((Unit ⊕ Nat) × xk_St)) (b1 : Int32) (b2 : Int32) (u : xk_St) : Option ((Unit ⊕ Nat) × xk_St) :=
  (xs_let (b2 + (1 : Int32)) fun a10 => k15 b1 a10 u)
noncomputable def jb_Reader_readTypes_15 (fu : Nat) : Nat → Int32 → Int32 → xk_St → Option ((Unit ⊕ Nat) × xk_St)
  | 0 => fun _ _ _ => none
  | n + 1 => fun b1 b2 u =>
    xs_let (jb_Reader_readTypes_15 fu  n) fun k15 =>
    if b1 ≤ b2 then (some (.inl (()), u)) else ((xs_let (if (64 : Int32) < b2 then (64 : Int32) else b2) fun a4 => xs_try (fm_Reader_readByte u) fun a5 u6 => if a4 < 0 ∨ 65 ≤ a4.toNatClampNeg then none else xs_let (xs_A u6 2 a4.toNatClampNeg a5) fun u7 => if a4 < 0 ∨ 65 ≤ a4.toNatClampNeg then none else xs_let (xs_A u7 4 a4.toNatClampNeg (0 : Int32)) fun u8 => if a5 = (94 : Int32) then ((xs_try (fm_Reader_readFields fu a4 (1 : Int32) u8) fun _ u9 => jb_Reader_readTypes_121 fu k15 b1 b2 u9)) else if a5 = (95 : Int32) then ((xs_try (fm_Reader_readNumber fu u8) fun a11 u12 => xs_try (fm_Reader_readFields fu a4 a11 u12) fun _ u13 => jb_Reader_readTypes_121 fu k15 b1 b2 u13)) else if a5 = (96 : Int32) then ((xs_try (fm_Reader_readSignature fu a4 u8) fun _ u14 => jb_Reader_readTypes_121 fu k15 b1 b2 u14)) else (some (.inr 0, u8))))
noncomputable def fm_Reader_readTypes (fu : Nat) (u : xk_St) : Option ((Unit ⊕ Nat) × xk_St) :=
  (xs_try (fm_Reader_readNumber fu u) fun a1 u2 => xs_let (xs_I u2 7 a1) fun u3 => jb_Reader_readTypes_15 fu fu a1 (0 : Int32) u3)
set_option maxHeartbeats 4000000 in
set_option maxRecDepth 100000 in
theorem wj_Reader_readTypes_121 {p : Program} {l : Launch} {e : Env} {s : State} {m : MethodId} {args : Array Value} {below : List Frame} {meth : Method} {c : Code} {D : va_G} {ad : Nat → Nat} {ca : Nat → ClassId} {ads : List Nat} {fu : Nat} (htr : l.stackTraces = false) (C : xk_C D kx_cl (kx_ty ca) (kw_h ad ca) ads "ModuleHouse$Reader" prog_9_method_14_code 5 none p e s m args meth c) (hne : c.exceptionTable.isEmpty = true) {u' : xk_St} {r : (Unit ⊕ Nat)} {k15 : Int32 → Int32 → xk_St → Option ((Unit ⊕ Nat) × xk_St)} (hk15 : ∀ (c0 : Int32) (c1 : Int32) (u : xk_St) (H : Heap) (locs : List Loc) (ls : Array Slot), k15 c0 c1 u = some (r, u') → va_P D kx_cl (kw_h ad ca u) H → va_S (xk_A ads s.heap.size) s.heap H locs → lv_has ls 5 [(0, .ref (ad 54)), (1, .int c0), (2, .int c1)] → W p l e rm_Reader_readTypes s m args below meth c H locs 0 0 (xk_MQ below (xk_Qc D kx_cl (kw_h ad ca) ads (xo_v r) u') args s (xk_A ads s.heap.size)) (F0 m 15 ls [])) {b1 : Int32} {b2 : Int32} {u : xk_St} {H : Heap} {locs : List Loc} {ls : Array Slot} (h : jb_Reader_readTypes_121 fu k15 b1 b2 u = some (r, u')) (hP : va_P D kx_cl (kw_h ad ca u) H) (hS : va_S (xk_A ads s.heap.size) s.heap H locs) (hl : lv_has ls 5 [(0, .ref (ad 54)), (1, .int b1), (2, .int b2)]) : W p l e rm_Reader_readTypes s m args below meth c H locs 0 0 (xk_MQ below (xk_Qc D kx_cl (kw_h ad ca) ads (xo_v r) u') args s (xk_A ads s.heap.size)) (F0 m 121 ls []) := by
  have hx := C.1.1
  have hb := C.1.2.1
  have hok := C.2.2.1
  unfold jb_Reader_readTypes_121 at h
  obtain ⟨a10, ea10, h⟩ := xp_let h
  refine lv_iinc (v := a10) (lv' := [(2, .int a10), (0, .ref (ad 54)), (1, .int b1)]) hx hb dd_Reader_readTypes_121 hl (k := 2) rfl (by rw [ea10]; first | rfl | decide) (by decide) rfl (fun ls hl => ?_)
  refine lv_goto (tgt := 15) hx hb dd_Reader_readTypes_124 (by decide) ?_
  exact hk15 b1 a10 u _ _ _ h hP hS (lv_sub hl [1, 2, 0] rfl)
set_option maxHeartbeats 4000000 in
set_option maxRecDepth 100000 in
theorem wj_Reader_readTypes_15 {p : Program} {l : Launch} {e : Env} {s : State} {m : MethodId} {args : Array Value} {below : List Frame} {meth : Method} {c : Code} {D : va_G} {ad : Nat → Nat} {ca : Nat → ClassId} {ads : List Nat} {fu : Nat} (htr : l.stackTraces = false) (C : xk_C D kx_cl (kx_ty ca) (kw_h ad ca) ads "ModuleHouse$Reader" prog_9_method_14_code 5 none p e s m args meth c) (hne : c.exceptionTable.isEmpty = true) {u' : xk_St} {r : (Unit ⊕ Nat)} : ∀ {n : Nat} {b1 : Int32} {b2 : Int32} {u : xk_St} {H : Heap} {locs : List Loc} {ls : Array Slot} (h : jb_Reader_readTypes_15 fu  n b1 b2 u = some (r, u')) (hP : va_P D kx_cl (kw_h ad ca u) H) (hS : va_S (xk_A ads s.heap.size) s.heap H locs) (hl : lv_has ls 5 [(0, .ref (ad 54)), (1, .int b1), (2, .int b2)]), W p l e rm_Reader_readTypes s m args below meth c H locs 0 0 (xk_MQ below (xk_Qc D kx_cl (kw_h ad ca) ads (xo_v r) u') args s (xk_A ads s.heap.size)) (F0 m 15 ls []) := by
  intro n
  have hx := C.1.1
  have hb := C.1.2.1
  have hok := C.2.2.1
  induction n with
  | zero =>
    intro _ _ u H locs ls h
    have h : none = some (r, u') := h
    cases h
  | succ n ih =>
    intro b1 b2 u H locs ls h hP hS hl
    unfold jb_Reader_readTypes_15 at h
    obtain ⟨k15, ek15, h⟩ := xp_let h
    have hk15 : ∀ (c0 : Int32) (c1 : Int32) (u : xk_St) (H : Heap) (locs : List Loc) (ls : Array Slot), k15 c0 c1 u = some (r, u') → va_P D kx_cl (kw_h ad ca u) H → va_S (xk_A ads s.heap.size) s.heap H locs → lv_has ls 5 [(0, .ref (ad 54)), (1, .int c0), (2, .int c1)] → W p l e rm_Reader_readTypes s m args below meth c H locs 0 0 (xk_MQ below (xk_Qc D kx_cl (kw_h ad ca) ads (xo_v r) u') args s (xk_A ads s.heap.size)) (F0 m 15 ls []) := by
      intro c0 c1 u H locs ls h hP hS hl
      subst ek15
      exact ih h hP hS hl
    clear ih ek15
    refine lv_iload_n hx hb dd_Reader_readTypes_15 rfl (lv_at hl 2 rfl) ?_
    refine lv_iload_n hx hb dd_Reader_readTypes_16 rfl (lv_at hl 1 rfl) ?_
    refine lv_icmp_ge (tgt := 127) hx hb dd_Reader_readTypes_17 (by decide) (fun hc => ?_) (fun hc => ?_)
    · have h := xp_t hc h
      obtain ⟨rfl, rfl⟩ := xp_r h
      exact xr_vret C hP hS dd_Reader_readTypes_127
    · have h := xp_f hc h
      refine lv_iload_n hx hb dd_Reader_readTypes_20 rfl (lv_at hl 2 rfl) ?_
      refine lv_bipush (v := 64) hx hb dd_Reader_readTypes_21 (by decide) ?_
      refine va_mmin hx hb (C.1.2.2.1.trans hl.1.symm) C.1.2.2.2.1 (C.1.2.2.2.2 _ (xk_c4 (w := Cond.methodLink "ModuleHouse$Reader" 139 Lib.Math.min.name) 159 rfl rfl)) (C.1.2.2.2.2 _ (xk_c3 (w := Cond.static Lib.Math.min.name) 164 rfl rfl)) (C.1.2.2.2.2 _ (xk_c1 (w := Cond.initialized "java/lang/Math") 24 rfl rfl)) (C.1.2.2.2.2 _ (xk_c3 (w := Cond.code Lib.Math.min.name Lib.Math.min.code 2 (some .int)) 165 rfl rfl)) (Nat.le_of_ble_eq_true rfl) (Nat.le_of_ble_eq_true rfl) (Nat.zero_le _) (Nat.zero_le _) dd_Reader_readTypes_23 ?_
      obtain ⟨a4, ea4, h⟩ := xp_let h
      refine xr_nami ea4 ?_
      refine lv_istore_n (lv' := [(3, .int a4), (0, .ref (ad 54)), (1, .int b1), (2, .int b2)]) hx hb dd_Reader_readTypes_26 rfl hl (by decide) rfl (fun ls hl => ?_)
      refine lv_aload_n hx hb dd_Reader_readTypes_27 rfl (lv_at hl 1 rfl) ?_
      rcases xp_try h with ⟨a5, u6, hq, h⟩ | ⟨kx, ux, hq, h⟩
      rotate_left
      · obtain ⟨rfl, rfl⟩ := xp_q h
        exact xk_up (xr_V (As := []) (rest := []) C hP hS (ct_Reader_readByte htr hok hq) kq_Reader_49 54 7 rfl rfl ⟨rfl, rfl, Nat.le_of_ble_eq_true rfl, Nat.le_of_ble_eq_true rfl⟩ ⟨Nat.le_of_ble_eq_true rfl, Nat.le_of_ble_eq_true rfl⟩ hl.1 rfl rfl (Nat.le_of_ble_eq_true rfl) dd_Reader_readTypes_28) hS hne C.2.2.2.2.2.2.1
      refine xk_goesI (xr_V (As := []) (rest := []) C hP hS (ct_Reader_readByte htr hok hq) kq_Reader_49 54 7 rfl rfl ⟨rfl, rfl, Nat.le_of_ble_eq_true rfl, Nat.le_of_ble_eq_true rfl⟩ ⟨Nat.le_of_ble_eq_true rfl, Nat.le_of_ble_eq_true rfl⟩ hl.1 rfl rfl (Nat.le_of_ble_eq_true rfl) dd_Reader_readTypes_28) hS (fun H locs hP hS => ?_)
      clear hq
      refine lv_istore (lv' := [(4, .int a5), (3, .int a4), (0, .ref (ad 54)), (1, .int b1), (2, .int b2)]) hx hb dd_Reader_readTypes_31 hl (by decide) rfl (fun ls hl => ?_)
      refine lv_aload_n hx hb dd_Reader_readTypes_33 rfl (lv_at hl 2 rfl) ?_
      refine gf_h_Reader_54_types C hP dd_Reader_readTypes_34 ?_
      refine gf_h_Reader_6_kind C hP dd_Reader_readTypes_37 ?_
      refine lv_iload_n hx hb dd_Reader_readTypes_40 rfl (lv_at hl 1 rfl) ?_
      refine lv_iload hx hb dd_Reader_readTypes_41 (lv_at hl 0 rfl) ?_
      obtain ⟨hi, h⟩ := xp_g h
      refine as_h_7 C hP hS hi dd_Reader_readTypes_43 (fun H locs hP hS => ?_)
      obtain ⟨u7, eu7, h⟩ := xp_let h
      rw [← eu7] at hP
      refine lv_aload_n hx hb dd_Reader_readTypes_44 rfl (lv_at hl 2 rfl) ?_
      refine gf_h_Reader_54_types C hP dd_Reader_readTypes_45 ?_
      refine gf_h_Reader_6_results C hP dd_Reader_readTypes_48 ?_
      refine lv_iload_n hx hb dd_Reader_readTypes_51 rfl (lv_at hl 1 rfl) ?_
      refine lv_iconst (v := 0) hx hb dd_Reader_readTypes_52 (by decide) ?_
      obtain ⟨hi, h⟩ := xp_g h
      refine as_h_9 C hP hS hi dd_Reader_readTypes_53 (fun H locs hP hS => ?_)
      obtain ⟨u8, eu8, h⟩ := xp_let h
      rw [← eu8] at hP
      refine lv_iload hx hb dd_Reader_readTypes_54 (lv_at hl 0 rfl) ?_
      by_cases hc0 : a5 = (94 : Int32)
      · have h := xp_t hc0 h
        refine lv_tableIn (off := 48) (tgt := 104) hx hb dd_Reader_readTypes_56 (by rw [hc0]; decide) (by rw [hc0]; decide) (by rw [hc0]; rfl) (by decide) ?_
        refine lv_aload_n hx hb dd_Reader_readTypes_104 rfl (lv_at hl 2 rfl) ?_
        refine lv_iload_n hx hb dd_Reader_readTypes_105 rfl (lv_at hl 1 rfl) ?_
        refine lv_iconst (v := 1) hx hb dd_Reader_readTypes_106 (by decide) ?_
        rcases xp_try h with ⟨rx, u9, hq, h⟩ | ⟨kx, ux, hq, h⟩
        rotate_left
        · obtain ⟨rfl, rfl⟩ := xp_q h
          exact xk_up (xr_V (As := [.int a4, .int (1 : Int32)]) (rest := []) C hP hS (ct_Reader_readFields htr hok hq) kq_Reader_151 54 7 rfl rfl ⟨rfl, rfl, Nat.le_of_ble_eq_true rfl, Nat.le_of_ble_eq_true rfl⟩ ⟨Nat.le_of_ble_eq_true rfl, Nat.le_of_ble_eq_true rfl⟩ hl.1 rfl rfl (Nat.le_of_ble_eq_true rfl) dd_Reader_readTypes_107) hS hne C.2.2.2.2.2.2.1
        refine xk_goesV (xr_V (As := [.int a4, .int (1 : Int32)]) (rest := []) C hP hS (ct_Reader_readFields htr hok hq) kq_Reader_151 54 7 rfl rfl ⟨rfl, rfl, Nat.le_of_ble_eq_true rfl, Nat.le_of_ble_eq_true rfl⟩ ⟨Nat.le_of_ble_eq_true rfl, Nat.le_of_ble_eq_true rfl⟩ hl.1 rfl rfl (Nat.le_of_ble_eq_true rfl) dd_Reader_readTypes_107) hS (fun H locs hP hS => ?_)
        clear hq
        refine lv_goto (tgt := 121) hx hb dd_Reader_readTypes_110 (by decide) ?_
        exact wj_Reader_readTypes_121 htr C hne hk15 h hP hS (lv_sub hl [2, 3, 4] rfl)
      have h := xp_f hc0 h
      by_cases hc1 : a5 = (95 : Int32)
      · have h := xp_t hc1 h
        refine lv_tableIn (off := 36) (tgt := 92) hx hb dd_Reader_readTypes_56 (by rw [hc1]; decide) (by rw [hc1]; decide) (by rw [hc1]; rfl) (by decide) ?_
        refine lv_aload_n hx hb dd_Reader_readTypes_92 rfl (lv_at hl 2 rfl) ?_
        refine lv_iload_n hx hb dd_Reader_readTypes_93 rfl (lv_at hl 1 rfl) ?_
        refine lv_aload_n hx hb dd_Reader_readTypes_94 rfl (lv_at hl 2 rfl) ?_
        rcases xp_try h with ⟨a11, u12, hq, h⟩ | ⟨kx, ux, hq, h⟩
        rotate_left
        · obtain ⟨rfl, rfl⟩ := xp_q h
          exact xk_up (xr_V (As := []) (rest := [.int a4, .ref (ad 54)]) C hP hS (ct_Reader_readNumber htr hok hq) kq_Reader_78 54 7 rfl rfl ⟨rfl, rfl, Nat.le_of_ble_eq_true rfl, Nat.le_of_ble_eq_true rfl⟩ ⟨Nat.le_of_ble_eq_true rfl, Nat.le_of_ble_eq_true rfl⟩ hl.1 rfl rfl (Nat.le_of_ble_eq_true rfl) dd_Reader_readTypes_95) hS hne C.2.2.2.2.2.2.1
        refine xk_goesI (xr_V (As := []) (rest := [.int a4, .ref (ad 54)]) C hP hS (ct_Reader_readNumber htr hok hq) kq_Reader_78 54 7 rfl rfl ⟨rfl, rfl, Nat.le_of_ble_eq_true rfl, Nat.le_of_ble_eq_true rfl⟩ ⟨Nat.le_of_ble_eq_true rfl, Nat.le_of_ble_eq_true rfl⟩ hl.1 rfl rfl (Nat.le_of_ble_eq_true rfl) dd_Reader_readTypes_95) hS (fun H locs hP hS => ?_)
        clear hq
        rcases xp_try h with ⟨rx, u13, hq, h⟩ | ⟨kx, ux, hq, h⟩
        rotate_left
        · obtain ⟨rfl, rfl⟩ := xp_q h
          exact xk_up (xr_V (As := [.int a4, .int a11]) (rest := []) C hP hS (ct_Reader_readFields htr hok hq) kq_Reader_151 54 7 rfl rfl ⟨rfl, rfl, Nat.le_of_ble_eq_true rfl, Nat.le_of_ble_eq_true rfl⟩ ⟨Nat.le_of_ble_eq_true rfl, Nat.le_of_ble_eq_true rfl⟩ hl.1 rfl rfl (Nat.le_of_ble_eq_true rfl) dd_Reader_readTypes_98) hS hne C.2.2.2.2.2.2.1
        refine xk_goesV (xr_V (As := [.int a4, .int a11]) (rest := []) C hP hS (ct_Reader_readFields htr hok hq) kq_Reader_151 54 7 rfl rfl ⟨rfl, rfl, Nat.le_of_ble_eq_true rfl, Nat.le_of_ble_eq_true rfl⟩ ⟨Nat.le_of_ble_eq_true rfl, Nat.le_of_ble_eq_true rfl⟩ hl.1 rfl rfl (Nat.le_of_ble_eq_true rfl) dd_Reader_readTypes_98) hS (fun H locs hP hS => ?_)
        clear hq
        refine lv_goto (tgt := 121) hx hb dd_Reader_readTypes_101 (by decide) ?_
        exact wj_Reader_readTypes_121 htr C hne hk15 h hP hS (lv_sub hl [2, 3, 4] rfl)
      have h := xp_f hc1 h
      by_cases hc2 : a5 = (96 : Int32)
      · have h := xp_t hc2 h
        refine lv_tableIn (off := 28) (tgt := 84) hx hb dd_Reader_readTypes_56 (by rw [hc2]; decide) (by rw [hc2]; decide) (by rw [hc2]; rfl) (by decide) ?_
        refine lv_aload_n hx hb dd_Reader_readTypes_84 rfl (lv_at hl 2 rfl) ?_
        refine lv_iload_n hx hb dd_Reader_readTypes_85 rfl (lv_at hl 1 rfl) ?_
        rcases xp_try h with ⟨rx, u14, hq, h⟩ | ⟨kx, ux, hq, h⟩
        rotate_left
        · obtain ⟨rfl, rfl⟩ := xp_q h
          exact xk_up (xr_V (As := [.int a4]) (rest := []) C hP hS (ct_Reader_readSignature htr hok hq) kq_Reader_147 54 7 rfl rfl ⟨rfl, rfl, Nat.le_of_ble_eq_true rfl, Nat.le_of_ble_eq_true rfl⟩ ⟨Nat.le_of_ble_eq_true rfl, Nat.le_of_ble_eq_true rfl⟩ hl.1 rfl rfl (Nat.le_of_ble_eq_true rfl) dd_Reader_readTypes_86) hS hne C.2.2.2.2.2.2.1
        refine xk_goesV (xr_V (As := [.int a4]) (rest := []) C hP hS (ct_Reader_readSignature htr hok hq) kq_Reader_147 54 7 rfl rfl ⟨rfl, rfl, Nat.le_of_ble_eq_true rfl, Nat.le_of_ble_eq_true rfl⟩ ⟨Nat.le_of_ble_eq_true rfl, Nat.le_of_ble_eq_true rfl⟩ hl.1 rfl rfl (Nat.le_of_ble_eq_true rfl) dd_Reader_readTypes_86) hS (fun H locs hP hS => ?_)
        clear hq
        refine lv_goto (tgt := 121) hx hb dd_Reader_readTypes_89 (by decide) ?_
        exact wj_Reader_readTypes_121 htr C hne hk15 h hP hS (lv_sub hl [2, 3, 4] rfl)
      have h := xp_f hc2 h
      have hd0 := lv_neT hc0 (a := 94) (by decide)
      have hd1 := lv_neT hc1 (a := 95) (by decide)
      have hd2 := lv_neT hc2 (a := 96) (by decide)
      refine lv_tableOut (tgt := 113) hx hb dd_Reader_readTypes_56 (by omega) (by decide) ?_
      obtain ⟨rfl, rfl⟩ := xp_r h
      exact xr_throw C hP hS hne kz_Reader_0 hl.1 ⟨Nat.le_of_ble_eq_true rfl, Nat.le_of_ble_eq_true rfl, Nat.le_of_ble_eq_true rfl, Nat.le_of_ble_eq_true rfl⟩ dd_Reader_readTypes_113 dd_Reader_readTypes_116 dd_Reader_readTypes_117 dd_Reader_readTypes_120
set_option maxHeartbeats 4000000 in
set_option maxRecDepth 100000 in
theorem ct_Reader_readTypes {l : Launch} {D : va_G} {ad : Nat → Nat} {ca : Nat → ClassId} {ads : List Nat} (htr : l.stackTraces = false) (hok : xk_ok (kw_h ad ca) ads) {fu : Nat} {u u' : xk_St} {r : (Unit ⊕ Nat)} (h : fm_Reader_readTypes fu u = some (r, u')) :
    ∀ sz, xk_Met l ⟨"ModuleHouse$Reader", "readTypes", "()V"⟩ (Cond.code ⟨"ModuleHouse$Reader", "readTypes", "()V"⟩ prog_9_method_14_code 5 none :: xk_gd) rm_Reader_readTypes (xk_Pc D kx_cl (kx_ty ca) (kw_h ad ca) ads xk_F sz [.ref (ad 54)] u) (xk_Qc D kx_cl (kw_h ad ca) ads (xo_v r) u') (xk_A ads sz) := by
  unfold fm_Reader_readTypes at h
  refine xk_con (by decide) htr hok (Nat.le_of_ble_eq_true rfl) (fun p e s m below meth c ls C hne hl hP => ?_)
  have hx := C.1.1
  have hb := C.1.2.1
  have hS : va_S (xk_A ads s.heap.size) s.heap s.heap [] := va_S.rf
  have hl : lv_has ls 5 [(0, .ref (ad 54))] := hl
  refine lv_aload_n hx hb dd_Reader_readTypes_0 rfl (lv_at hl 0 rfl) ?_
  rcases xp_try h with ⟨a1, u2, hq, h⟩ | ⟨kx, ux, hq, h⟩
  rotate_left
  · obtain ⟨rfl, rfl⟩ := xp_q h
    exact xk_up (xr_V (As := []) (rest := []) C hP hS (ct_Reader_readNumber htr hok hq) kq_Reader_78 54 7 rfl rfl ⟨rfl, rfl, Nat.le_of_ble_eq_true rfl, Nat.le_of_ble_eq_true rfl⟩ ⟨Nat.le_of_ble_eq_true rfl, Nat.le_of_ble_eq_true rfl⟩ hl.1 rfl rfl (Nat.le_of_ble_eq_true rfl) dd_Reader_readTypes_1) hS hne C.2.2.2.2.2.2.1
  refine xk_goesI (xr_V (As := []) (rest := []) C hP hS (ct_Reader_readNumber htr hok hq) kq_Reader_78 54 7 rfl rfl ⟨rfl, rfl, Nat.le_of_ble_eq_true rfl, Nat.le_of_ble_eq_true rfl⟩ ⟨Nat.le_of_ble_eq_true rfl, Nat.le_of_ble_eq_true rfl⟩ hl.1 rfl rfl (Nat.le_of_ble_eq_true rfl) dd_Reader_readTypes_1) hS (fun H locs hP hS => ?_)
  clear hq
  refine lv_istore_n (lv' := [(1, .int a1), (0, .ref (ad 54))]) hx hb dd_Reader_readTypes_4 rfl hl (by decide) rfl (fun ls hl => ?_)
  refine lv_aload_n hx hb dd_Reader_readTypes_5 rfl (lv_at hl 1 rfl) ?_
  refine gf_h_Reader_54_types C hP dd_Reader_readTypes_6 ?_
  refine lv_iload_n hx hb dd_Reader_readTypes_9 rfl (lv_at hl 0 rfl) ?_
  refine pf_h_Reader_6_count C hP hS dd_Reader_readTypes_10 (fun H locs hP hS => ?_)
  obtain ⟨u3, eu3, h⟩ := xp_let h
  rw [← eu3] at hP
  refine lv_iconst (v := 0) hx hb dd_Reader_readTypes_13 (by decide) ?_
  refine lv_istore_n (lv' := [(2, .int (0 : Int32)), (1, .int a1), (0, .ref (ad 54))]) hx hb dd_Reader_readTypes_14 rfl hl (by decide) rfl (fun ls hl => ?_)
  exact wj_Reader_readTypes_15 htr C hne h hP hS (lv_sub hl [2, 1, 0] rfl)
abbrev rm_Reader_expect : Room := { frames := 7, cells := 1, slots := 6, locals := 120 }
noncomputable def fm_Reader_expect (x0 : Int32) (u : xk_St) : Option ((Unit ⊕ Nat) × xk_St) :=
  (xs_try (fm_Reader_readByte u) fun a1 u2 => if a1 = x0 then (some (.inl (()), u2)) else (some (.inr 0, u2)))
set_option maxHeartbeats 4000000 in
set_option maxRecDepth 100000 in
theorem ct_Reader_expect {l : Launch} {D : va_G} {ad : Nat → Nat} {ca : Nat → ClassId} {ads : List Nat} (htr : l.stackTraces = false) (hok : xk_ok (kw_h ad ca) ads) {x0 : Int32} {u u' : xk_St} {r : (Unit ⊕ Nat)} (h : fm_Reader_expect x0 u = some (r, u')) :
    ∀ sz, xk_Met l ⟨"ModuleHouse$Reader", "expect", "(I)V"⟩ (Cond.code ⟨"ModuleHouse$Reader", "expect", "(I)V"⟩ prog_9_method_10_code 2 none :: xk_gd) rm_Reader_expect (xk_Pc D kx_cl (kx_ty ca) (kw_h ad ca) ads xk_F sz [.ref (ad 54), .int x0] u) (xk_Qc D kx_cl (kw_h ad ca) ads (xo_v r) u') (xk_A ads sz) := by
  unfold fm_Reader_expect at h
  refine xk_con (by decide) htr hok (Nat.le_of_ble_eq_true rfl) (fun p e s m below meth c ls C hne hl hP => ?_)
  have hx := C.1.1
  have hb := C.1.2.1
  have hS : va_S (xk_A ads s.heap.size) s.heap s.heap [] := va_S.rf
  have hl : lv_has ls 2 [(0, .ref (ad 54)), (1, .int x0)] := hl
  refine lv_aload_n hx hb dd_Reader_expect_0 rfl (lv_at hl 0 rfl) ?_
  rcases xp_try h with ⟨a1, u2, hq, h⟩ | ⟨kx, ux, hq, h⟩
  rotate_left
  · obtain ⟨rfl, rfl⟩ := xp_q h
    exact xk_up (xr_V (As := []) (rest := []) C hP hS (ct_Reader_readByte htr hok hq) kq_Reader_49 54 7 rfl rfl ⟨rfl, rfl, Nat.le_of_ble_eq_true rfl, Nat.le_of_ble_eq_true rfl⟩ ⟨Nat.le_of_ble_eq_true rfl, Nat.le_of_ble_eq_true rfl⟩ hl.1 rfl rfl (Nat.le_of_ble_eq_true rfl) dd_Reader_expect_1) hS hne C.2.2.2.2.2.2.1
  refine xk_goesI (xr_V (As := []) (rest := []) C hP hS (ct_Reader_readByte htr hok hq) kq_Reader_49 54 7 rfl rfl ⟨rfl, rfl, Nat.le_of_ble_eq_true rfl, Nat.le_of_ble_eq_true rfl⟩ ⟨Nat.le_of_ble_eq_true rfl, Nat.le_of_ble_eq_true rfl⟩ hl.1 rfl rfl (Nat.le_of_ble_eq_true rfl) dd_Reader_expect_1) hS (fun H locs hP hS => ?_)
  clear hq
  refine lv_iload_n hx hb dd_Reader_expect_4 rfl (lv_at hl 1 rfl) ?_
  refine lv_icmp_eq (tgt := 16) hx hb dd_Reader_expect_5 (by decide) (fun hc => ?_) (fun hc => ?_)
  · have h := xp_t hc h
    obtain ⟨rfl, rfl⟩ := xp_r h
    exact xr_vret C hP hS dd_Reader_expect_16
  · have h := xp_f hc h
    obtain ⟨rfl, rfl⟩ := xp_r h
    exact xr_throw C hP hS hne kz_Reader_0 hl.1 ⟨Nat.le_of_ble_eq_true rfl, Nat.le_of_ble_eq_true rfl, Nat.le_of_ble_eq_true rfl, Nat.le_of_ble_eq_true rfl⟩ dd_Reader_expect_8 dd_Reader_expect_11 dd_Reader_expect_12 dd_Reader_expect_15
abbrev rm_Reader_readPlace : Room := { frames := 8, cells := 1, slots := 6, locals := 141 }
noncomputable def fm_Reader_readPlace (fu : Nat) (u : xk_St) : Option ((Int64 ⊕ Nat) × xk_St) :=
  (xs_try (fm_Reader_expect (0 : Int32) u) fun _ u1 => xs_try (fm_Reader_expect (65 : Int32) u1) fun _ u2 => xs_try (fm_Reader_readSigned fu (32 : Int32) u2) fun a3 u4 => xs_let (a3 &&& (4294967295 : Int64)) fun a5 => xs_try (fm_Reader_expect (11 : Int32) u4) fun _ u6 => some (.inl a5, u6))
set_option maxHeartbeats 4000000 in
set_option maxRecDepth 100000 in
theorem ct_Reader_readPlace {l : Launch} {D : va_G} {ad : Nat → Nat} {ca : Nat → ClassId} {ads : List Nat} (htr : l.stackTraces = false) (hok : xk_ok (kw_h ad ca) ads) {fu : Nat} {u u' : xk_St} {r : (Int64 ⊕ Nat)} (h : fm_Reader_readPlace fu u = some (r, u')) :
    ∀ sz, xk_Met l ⟨"ModuleHouse$Reader", "readPlace", "()J"⟩ (Cond.code ⟨"ModuleHouse$Reader", "readPlace", "()J"⟩ prog_9_method_24_code 3 (some .long) :: xk_gd) rm_Reader_readPlace (xk_Pc D kx_cl (kx_ty ca) (kw_h ad ca) ads xk_F sz [.ref (ad 54)] u) (xk_Qc D kx_cl (kw_h ad ca) ads (xo_l r) u') (xk_A ads sz) := by
  unfold fm_Reader_readPlace at h
  refine xk_con (by decide) htr hok (Nat.le_of_ble_eq_true rfl) (fun p e s m below meth c ls C hne hl hP => ?_)
  have hx := C.1.1
  have hb := C.1.2.1
  have hS : va_S (xk_A ads s.heap.size) s.heap s.heap [] := va_S.rf
  have hl : lv_has ls 3 [(0, .ref (ad 54))] := hl
  refine lv_aload_n hx hb dd_Reader_readPlace_0 rfl (lv_at hl 0 rfl) ?_
  refine lv_iconst (v := 0) hx hb dd_Reader_readPlace_1 (by decide) ?_
  rcases xp_try h with ⟨rx, u1, hq, h⟩ | ⟨kx, ux, hq, h⟩
  rotate_left
  · obtain ⟨rfl, rfl⟩ := xp_q h
    exact xk_up (xr_V (As := [.int (0 : Int32)]) (rest := []) C hP hS (ct_Reader_expect htr hok hq) kq_Reader_179 54 7 rfl rfl ⟨rfl, rfl, Nat.le_of_ble_eq_true rfl, Nat.le_of_ble_eq_true rfl⟩ ⟨Nat.le_of_ble_eq_true rfl, Nat.le_of_ble_eq_true rfl⟩ hl.1 rfl rfl (Nat.le_of_ble_eq_true rfl) dd_Reader_readPlace_2) hS hne C.2.2.2.2.2.2.1
  refine xk_goesV (xr_V (As := [.int (0 : Int32)]) (rest := []) C hP hS (ct_Reader_expect htr hok hq) kq_Reader_179 54 7 rfl rfl ⟨rfl, rfl, Nat.le_of_ble_eq_true rfl, Nat.le_of_ble_eq_true rfl⟩ ⟨Nat.le_of_ble_eq_true rfl, Nat.le_of_ble_eq_true rfl⟩ hl.1 rfl rfl (Nat.le_of_ble_eq_true rfl) dd_Reader_readPlace_2) hS (fun H locs hP hS => ?_)
  clear hq
  refine lv_aload_n hx hb dd_Reader_readPlace_5 rfl (lv_at hl 0 rfl) ?_
  refine lv_bipush (v := 65) hx hb dd_Reader_readPlace_6 (by decide) ?_
  rcases xp_try h with ⟨rx, u2, hq, h⟩ | ⟨kx, ux, hq, h⟩
  rotate_left
  · obtain ⟨rfl, rfl⟩ := xp_q h
    exact xk_up (xr_V (As := [.int (65 : Int32)]) (rest := []) C hP hS (ct_Reader_expect htr hok hq) kq_Reader_179 54 7 rfl rfl ⟨rfl, rfl, Nat.le_of_ble_eq_true rfl, Nat.le_of_ble_eq_true rfl⟩ ⟨Nat.le_of_ble_eq_true rfl, Nat.le_of_ble_eq_true rfl⟩ hl.1 rfl rfl (Nat.le_of_ble_eq_true rfl) dd_Reader_readPlace_8) hS hne C.2.2.2.2.2.2.1
  refine xk_goesV (xr_V (As := [.int (65 : Int32)]) (rest := []) C hP hS (ct_Reader_expect htr hok hq) kq_Reader_179 54 7 rfl rfl ⟨rfl, rfl, Nat.le_of_ble_eq_true rfl, Nat.le_of_ble_eq_true rfl⟩ ⟨Nat.le_of_ble_eq_true rfl, Nat.le_of_ble_eq_true rfl⟩ hl.1 rfl rfl (Nat.le_of_ble_eq_true rfl) dd_Reader_readPlace_8) hS (fun H locs hP hS => ?_)
  clear hq
  refine lv_aload_n hx hb dd_Reader_readPlace_11 rfl (lv_at hl 0 rfl) ?_
  refine lv_bipush (v := 32) hx hb dd_Reader_readPlace_12 (by decide) ?_
  rcases xp_try h with ⟨a3, u4, hq, h⟩ | ⟨kx, ux, hq, h⟩
  rotate_left
  · obtain ⟨rfl, rfl⟩ := xp_q h
    exact xk_up (xr_V (As := [.int (32 : Int32)]) (rest := []) C hP hS (ct_Reader_readSigned htr hok hq) kq_Reader_120 54 7 rfl rfl ⟨rfl, rfl, Nat.le_of_ble_eq_true rfl, Nat.le_of_ble_eq_true rfl⟩ ⟨Nat.le_of_ble_eq_true rfl, Nat.le_of_ble_eq_true rfl⟩ hl.1 rfl rfl (Nat.le_of_ble_eq_true rfl) dd_Reader_readPlace_14) hS hne C.2.2.2.2.2.2.1
  refine xk_goesL (xr_V (As := [.int (32 : Int32)]) (rest := []) C hP hS (ct_Reader_readSigned htr hok hq) kq_Reader_120 54 7 rfl rfl ⟨rfl, rfl, Nat.le_of_ble_eq_true rfl, Nat.le_of_ble_eq_true rfl⟩ ⟨Nat.le_of_ble_eq_true rfl, Nat.le_of_ble_eq_true rfl⟩ hl.1 rfl rfl (Nat.le_of_ble_eq_true rfl) dd_Reader_readPlace_14) hS (fun H locs hP hS => ?_)
  clear hq
  refine lv_ldc2 (v := 4294967295) hx hb C.1.2.2.2.1 (C.1.2.2.2.2 _ (xk_c4 (w := Jvm.Cond.constantLong "ModuleHouse$Reader" 99 4294967295) 146 rfl rfl)) dd_Reader_readPlace_17 ?_
  refine lv_land hx hb dd_Reader_readPlace_20 ?_
  obtain ⟨a5, ea5, h⟩ := xp_let h
  refine xr_naml ea5 ?_
  refine lv_lstore_n (lv' := [(1, .long a5), (0, .ref (ad 54))]) hx hb dd_Reader_readPlace_21 rfl hl (by decide) rfl (fun ls hl => ?_)
  refine lv_aload_n hx hb dd_Reader_readPlace_22 rfl (lv_at hl 1 rfl) ?_
  refine lv_bipush (v := 11) hx hb dd_Reader_readPlace_23 (by decide) ?_
  rcases xp_try h with ⟨rx, u6, hq, h⟩ | ⟨kx, ux, hq, h⟩
  rotate_left
  · obtain ⟨rfl, rfl⟩ := xp_q h
    exact xk_up (xr_V (As := [.int (11 : Int32)]) (rest := []) C hP hS (ct_Reader_expect htr hok hq) kq_Reader_179 54 7 rfl rfl ⟨rfl, rfl, Nat.le_of_ble_eq_true rfl, Nat.le_of_ble_eq_true rfl⟩ ⟨Nat.le_of_ble_eq_true rfl, Nat.le_of_ble_eq_true rfl⟩ hl.1 rfl rfl (Nat.le_of_ble_eq_true rfl) dd_Reader_readPlace_25) hS hne C.2.2.2.2.2.2.1
  refine xk_goesV (xr_V (As := [.int (11 : Int32)]) (rest := []) C hP hS (ct_Reader_expect htr hok hq) kq_Reader_179 54 7 rfl rfl ⟨rfl, rfl, Nat.le_of_ble_eq_true rfl, Nat.le_of_ble_eq_true rfl⟩ ⟨Nat.le_of_ble_eq_true rfl, Nat.le_of_ble_eq_true rfl⟩ hl.1 rfl rfl (Nat.le_of_ble_eq_true rfl) dd_Reader_readPlace_25) hS (fun H locs hP hS => ?_)
  clear hq
  refine lv_lload_n hx hb dd_Reader_readPlace_28 rfl (lv_at hl 0 rfl) ?_
  obtain ⟨rfl, rfl⟩ := xp_r h
  exact xr_lret C hP hS dd_Reader_readPlace_29
abbrev rm_Reader_passBytes : Room := { frames := 8, cells := 1, slots := 6, locals := 147 }
noncomputable def fm_Reader_passBytes (fu : Nat) (x1 : Int32) (u : xk_St) : Option ((Unit ⊕ Nat) × xk_St) :=
  (xs_try (fm_Reader_readSize fu (u.1 18) u) fun a1 u2 => if x1 < 0 ∨ 65 ≤ x1.toNatClampNeg then none else xs_let (xs_A u2 31 x1.toNatClampNeg (u2.1 17)) fun u3 => if x1 < 0 ∨ 65 ≤ x1.toNatClampNeg then none else xs_let (xs_A u3 32 x1.toNatClampNeg a1) fun u4 => xs_let (xs_I u4 17 ((u4.1 17) + a1)) fun u5 => some (.inl (()), u5))
set_option maxHeartbeats 4000000 in
set_option maxRecDepth 100000 in
theorem ct_Reader_passBytes {l : Launch} {D : va_G} {ad : Nat → Nat} {ca : Nat → ClassId} {ads : List Nat} (htr : l.stackTraces = false) (hok : xk_ok (kw_h ad ca) ads) {fu : Nat} {x1 : Int32} {u u' : xk_St} {r : (Unit ⊕ Nat)} (h : fm_Reader_passBytes fu x1 u = some (r, u')) :
    ∀ sz, xk_Met l ⟨"ModuleHouse$Reader", "passBytes", "(LModuleHouse$Row;I)V"⟩ (Cond.code ⟨"ModuleHouse$Reader", "passBytes", "(LModuleHouse$Row;I)V"⟩ prog_9_method_23_code 4 none :: xk_gd) rm_Reader_passBytes (xk_Pc D kx_cl (kx_ty ca) (kw_h ad ca) ads xk_F sz [.ref (ad 54), .ref (ad 49), .int x1] u) (xk_Qc D kx_cl (kw_h ad ca) ads (xo_v r) u') (xk_A ads sz) := by
  unfold fm_Reader_passBytes at h
  refine xk_con (by decide) htr hok (Nat.le_of_ble_eq_true rfl) (fun p e s m below meth c ls C hne hl hP => ?_)
  have hx := C.1.1
  have hb := C.1.2.1
  have hS : va_S (xk_A ads s.heap.size) s.heap s.heap [] := va_S.rf
  have hl : lv_has ls 4 [(0, .ref (ad 54)), (1, .ref (ad 49)), (2, .int x1)] := hl
  refine lv_aload_n hx hb dd_Reader_passBytes_0 rfl (lv_at hl 0 rfl) ?_
  refine lv_aload_n hx hb dd_Reader_passBytes_1 rfl (lv_at hl 0 rfl) ?_
  refine gf_h_Reader_54_end C hP dd_Reader_passBytes_2 ?_
  rcases xp_try h with ⟨a1, u2, hq, h⟩ | ⟨kx, ux, hq, h⟩
  rotate_left
  · obtain ⟨rfl, rfl⟩ := xp_q h
    exact xk_up (xr_V (As := [.int (u.1 18)]) (rest := []) C hP hS (ct_Reader_readSize htr hok hq) kq_Reader_56 54 7 rfl rfl ⟨rfl, rfl, Nat.le_of_ble_eq_true rfl, Nat.le_of_ble_eq_true rfl⟩ ⟨Nat.le_of_ble_eq_true rfl, Nat.le_of_ble_eq_true rfl⟩ hl.1 rfl rfl (Nat.le_of_ble_eq_true rfl) dd_Reader_passBytes_5) hS hne C.2.2.2.2.2.2.1
  refine xk_goesI (xr_V (As := [.int (u.1 18)]) (rest := []) C hP hS (ct_Reader_readSize htr hok hq) kq_Reader_56 54 7 rfl rfl ⟨rfl, rfl, Nat.le_of_ble_eq_true rfl, Nat.le_of_ble_eq_true rfl⟩ ⟨Nat.le_of_ble_eq_true rfl, Nat.le_of_ble_eq_true rfl⟩ hl.1 rfl rfl (Nat.le_of_ble_eq_true rfl) dd_Reader_passBytes_5) hS (fun H locs hP hS => ?_)
  clear hq
  refine lv_istore_n (lv' := [(3, .int a1), (0, .ref (ad 54)), (1, .ref (ad 49)), (2, .int x1)]) hx hb dd_Reader_passBytes_8 rfl hl (by decide) rfl (fun ls hl => ?_)
  refine lv_aload_n hx hb dd_Reader_passBytes_9 rfl (lv_at hl 2 rfl) ?_
  refine gf_h_Reader_49_first C hP dd_Reader_passBytes_10 ?_
  refine lv_iload_n hx hb dd_Reader_passBytes_13 rfl (lv_at hl 3 rfl) ?_
  refine lv_aload_n hx hb dd_Reader_passBytes_14 rfl (lv_at hl 1 rfl) ?_
  refine gf_h_Reader_54_next C hP dd_Reader_passBytes_15 ?_
  obtain ⟨hi, h⟩ := xp_g h
  refine as_h_51 C hP hS hi dd_Reader_passBytes_18 (fun H locs hP hS => ?_)
  obtain ⟨u3, eu3, h⟩ := xp_let h
  rw [← eu3] at hP
  refine lv_aload_n hx hb dd_Reader_passBytes_19 rfl (lv_at hl 2 rfl) ?_
  refine gf_h_Reader_49_second C hP dd_Reader_passBytes_20 ?_
  refine lv_iload_n hx hb dd_Reader_passBytes_23 rfl (lv_at hl 3 rfl) ?_
  refine lv_iload_n hx hb dd_Reader_passBytes_24 rfl (lv_at hl 0 rfl) ?_
  obtain ⟨hi, h⟩ := xp_g h
  refine as_h_52 C hP hS hi dd_Reader_passBytes_25 (fun H locs hP hS => ?_)
  obtain ⟨u4, eu4, h⟩ := xp_let h
  rw [← eu4] at hP
  refine lv_aload_n hx hb dd_Reader_passBytes_26 rfl (lv_at hl 1 rfl) ?_
  refine lv_dup hx hb dd_Reader_passBytes_27 rfl ?_
  refine gf_h_Reader_54_next C hP dd_Reader_passBytes_28 ?_
  refine lv_iload_n hx hb dd_Reader_passBytes_31 rfl (lv_at hl 0 rfl) ?_
  refine lv_iadd hx hb dd_Reader_passBytes_32 ?_
  refine pf_h_Reader_54_next C hP hS dd_Reader_passBytes_33 (fun H locs hP hS => ?_)
  obtain ⟨u5, eu5, h⟩ := xp_let h
  rw [← eu5] at hP
  obtain ⟨rfl, rfl⟩ := xp_r h
  exact xr_vret C hP hS dd_Reader_passBytes_36
abbrev rm_Reader_readData : Room := { frames := 9, cells := 1, slots := 6, locals := 170 }
noncomputable def jb_Reader_readData_18 (fu : Nat) : Nat → Int32 → Int32 → xk_St → Option ((Unit ⊕ Nat) × xk_St)
  | 0 => fun _ _ _ => none
  | n + 1 => fun b1 b2 u =>
    xs_let (jb_Reader_readData_18 fu  n) fun k18 =>
    if b1 ≤ b2 then (some (.inl (()), u)) else ((xs_let (if (64 : Int32) < b2 then (64 : Int32) else b2) fun a4 => xs_try (fm_Reader_readPlace fu u) fun a5 u6 => if a4 < 0 ∨ 65 ≤ a4.toNatClampNeg then none else xs_let (xs_B u6 9 a4.toNatClampNeg a5) fun u7 => xs_try (fm_Reader_passBytes fu a4 u7) fun _ u8 => xs_let (b2 + (1 : Int32)) fun a9 => k18 b1 a9 u8))
noncomputable def fm_Reader_readData (fu : Nat) (u : xk_St) : Option ((Unit ⊕ Nat) × xk_St) :=
  (xs_try (fm_Reader_readNumber fu u) fun a1 u2 => xs_let (xs_I u2 16 a1) fun u3 => jb_Reader_readData_18 fu fu a1 (0 : Int32) u3)
set_option maxHeartbeats 4000000 in
set_option maxRecDepth 100000 in
theorem wj_Reader_readData_18 {p : Program} {l : Launch} {e : Env} {s : State} {m : MethodId} {args : Array Value} {below : List Frame} {meth : Method} {c : Code} {D : va_G} {ad : Nat → Nat} {ca : Nat → ClassId} {ads : List Nat} {fu : Nat} (htr : l.stackTraces = false) (C : xk_C D kx_cl (kx_ty ca) (kw_h ad ca) ads "ModuleHouse$Reader" prog_9_method_27_code 4 none p e s m args meth c) (hne : c.exceptionTable.isEmpty = true) {u' : xk_St} {r : (Unit ⊕ Nat)} : ∀ {n : Nat} {b1 : Int32} {b2 : Int32} {u : xk_St} {H : Heap} {locs : List Loc} {ls : Array Slot} (h : jb_Reader_readData_18 fu  n b1 b2 u = some (r, u')) (hP : va_P D kx_cl (kw_h ad ca u) H) (hS : va_S (xk_A ads s.heap.size) s.heap H locs) (hl : lv_has ls 4 [(0, .ref (ad 54)), (1, .int b1), (2, .int b2)]), W p l e rm_Reader_readData s m args below meth c H locs 0 0 (xk_MQ below (xk_Qc D kx_cl (kw_h ad ca) ads (xo_v r) u') args s (xk_A ads s.heap.size)) (F0 m 18 ls []) := by
  intro n
  have hx := C.1.1
  have hb := C.1.2.1
  have hok := C.2.2.1
  induction n with
  | zero =>
    intro _ _ u H locs ls h
    have h : none = some (r, u') := h
    cases h
  | succ n ih =>
    intro b1 b2 u H locs ls h hP hS hl
    unfold jb_Reader_readData_18 at h
    obtain ⟨k18, ek18, h⟩ := xp_let h
    have hk18 : ∀ (c0 : Int32) (c1 : Int32) (u : xk_St) (H : Heap) (locs : List Loc) (ls : Array Slot), k18 c0 c1 u = some (r, u') → va_P D kx_cl (kw_h ad ca u) H → va_S (xk_A ads s.heap.size) s.heap H locs → lv_has ls 4 [(0, .ref (ad 54)), (1, .int c0), (2, .int c1)] → W p l e rm_Reader_readData s m args below meth c H locs 0 0 (xk_MQ below (xk_Qc D kx_cl (kw_h ad ca) ads (xo_v r) u') args s (xk_A ads s.heap.size)) (F0 m 18 ls []) := by
      intro c0 c1 u H locs ls h hP hS hl
      subst ek18
      exact ih h hP hS hl
    clear ih ek18
    refine lv_iload_n hx hb dd_Reader_readData_18 rfl (lv_at hl 2 rfl) ?_
    refine lv_iload_n hx hb dd_Reader_readData_19 rfl (lv_at hl 1 rfl) ?_
    refine lv_icmp_ge (tgt := 64) hx hb dd_Reader_readData_20 (by decide) (fun hc => ?_) (fun hc => ?_)
    · have h := xp_t hc h
      obtain ⟨rfl, rfl⟩ := xp_r h
      exact xr_vret C hP hS dd_Reader_readData_64
    · have h := xp_f hc h
      refine lv_iload_n hx hb dd_Reader_readData_23 rfl (lv_at hl 2 rfl) ?_
      refine lv_bipush (v := 64) hx hb dd_Reader_readData_24 (by decide) ?_
      refine va_mmin hx hb (C.1.2.2.1.trans hl.1.symm) C.1.2.2.2.1 (C.1.2.2.2.2 _ (xk_c4 (w := Cond.methodLink "ModuleHouse$Reader" 139 Lib.Math.min.name) 159 rfl rfl)) (C.1.2.2.2.2 _ (xk_c3 (w := Cond.static Lib.Math.min.name) 164 rfl rfl)) (C.1.2.2.2.2 _ (xk_c1 (w := Cond.initialized "java/lang/Math") 24 rfl rfl)) (C.1.2.2.2.2 _ (xk_c3 (w := Cond.code Lib.Math.min.name Lib.Math.min.code 2 (some .int)) 165 rfl rfl)) (Nat.le_of_ble_eq_true rfl) (Nat.le_of_ble_eq_true rfl) (Nat.zero_le _) (Nat.zero_le _) dd_Reader_readData_26 ?_
      obtain ⟨a4, ea4, h⟩ := xp_let h
      refine xr_nami ea4 ?_
      refine lv_istore_n (lv' := [(3, .int a4), (0, .ref (ad 54)), (1, .int b1), (2, .int b2)]) hx hb dd_Reader_readData_29 rfl hl (by decide) rfl (fun ls hl => ?_)
      refine lv_aload_n hx hb dd_Reader_readData_30 rfl (lv_at hl 1 rfl) ?_
      refine gf_h_Reader_54_module C hP dd_Reader_readData_31 ?_
      refine gf_h_Reader_4_data C hP dd_Reader_readData_34 ?_
      refine gf_h_Reader_49_number C hP dd_Reader_readData_37 ?_
      refine lv_iload_n hx hb dd_Reader_readData_40 rfl (lv_at hl 0 rfl) ?_
      refine lv_aload_n hx hb dd_Reader_readData_41 rfl (lv_at hl 1 rfl) ?_
      rcases xp_try h with ⟨a5, u6, hq, h⟩ | ⟨kx, ux, hq, h⟩
      rotate_left
      · obtain ⟨rfl, rfl⟩ := xp_q h
        exact xk_up (xr_V (As := []) (rest := [.int a4, .ref (ad 53)]) C hP hS (ct_Reader_readPlace htr hok hq) kq_Reader_212 54 7 rfl rfl ⟨rfl, rfl, Nat.le_of_ble_eq_true rfl, Nat.le_of_ble_eq_true rfl⟩ ⟨Nat.le_of_ble_eq_true rfl, Nat.le_of_ble_eq_true rfl⟩ hl.1 rfl rfl (Nat.le_of_ble_eq_true rfl) dd_Reader_readData_42) hS hne C.2.2.2.2.2.2.1
      refine xk_goesL (xr_V (As := []) (rest := [.int a4, .ref (ad 53)]) C hP hS (ct_Reader_readPlace htr hok hq) kq_Reader_212 54 7 rfl rfl ⟨rfl, rfl, Nat.le_of_ble_eq_true rfl, Nat.le_of_ble_eq_true rfl⟩ ⟨Nat.le_of_ble_eq_true rfl, Nat.le_of_ble_eq_true rfl⟩ hl.1 rfl rfl (Nat.le_of_ble_eq_true rfl) dd_Reader_readData_42) hS (fun H locs hP hS => ?_)
      clear hq
      obtain ⟨hi, h⟩ := xp_g h
      refine as_h_53 C hP hS hi dd_Reader_readData_45 (fun H locs hP hS => ?_)
      obtain ⟨u7, eu7, h⟩ := xp_let h
      rw [← eu7] at hP
      refine lv_aload_n hx hb dd_Reader_readData_46 rfl (lv_at hl 1 rfl) ?_
      refine lv_aload_n hx hb dd_Reader_readData_47 rfl (lv_at hl 1 rfl) ?_
      refine gf_h_Reader_54_module C hP dd_Reader_readData_48 ?_
      refine gf_h_Reader_4_data C hP dd_Reader_readData_51 ?_
      refine lv_iload_n hx hb dd_Reader_readData_54 rfl (lv_at hl 0 rfl) ?_
      rcases xp_try h with ⟨rx, u8, hq, h⟩ | ⟨kx, ux, hq, h⟩
      rotate_left
      · obtain ⟨rfl, rfl⟩ := xp_q h
        exact xk_up (xr_V (As := [.ref (ad 49), .int a4]) (rest := []) C hP hS (ct_Reader_passBytes htr hok hq) kq_Reader_206 54 7 rfl rfl ⟨rfl, rfl, Nat.le_of_ble_eq_true rfl, Nat.le_of_ble_eq_true rfl⟩ ⟨Nat.le_of_ble_eq_true rfl, Nat.le_of_ble_eq_true rfl⟩ hl.1 rfl rfl (Nat.le_of_ble_eq_true rfl) dd_Reader_readData_55) hS hne C.2.2.2.2.2.2.1
      refine xk_goesV (xr_V (As := [.ref (ad 49), .int a4]) (rest := []) C hP hS (ct_Reader_passBytes htr hok hq) kq_Reader_206 54 7 rfl rfl ⟨rfl, rfl, Nat.le_of_ble_eq_true rfl, Nat.le_of_ble_eq_true rfl⟩ ⟨Nat.le_of_ble_eq_true rfl, Nat.le_of_ble_eq_true rfl⟩ hl.1 rfl rfl (Nat.le_of_ble_eq_true rfl) dd_Reader_readData_55) hS (fun H locs hP hS => ?_)
      clear hq
      obtain ⟨a9, ea9, h⟩ := xp_let h
      refine lv_iinc (v := a9) (lv' := [(2, .int a9), (3, .int a4), (0, .ref (ad 54)), (1, .int b1)]) hx hb dd_Reader_readData_58 hl (k := 3) rfl (by rw [ea9]; first | rfl | decide) (by decide) rfl (fun ls hl => ?_)
      refine lv_goto (tgt := 18) hx hb dd_Reader_readData_61 (by decide) ?_
      exact hk18 b1 a9 u8 _ _ _ h hP hS (lv_sub hl [2, 3, 0] rfl)
set_option maxHeartbeats 4000000 in
set_option maxRecDepth 100000 in
theorem ct_Reader_readData {l : Launch} {D : va_G} {ad : Nat → Nat} {ca : Nat → ClassId} {ads : List Nat} (htr : l.stackTraces = false) (hok : xk_ok (kw_h ad ca) ads) {fu : Nat} {u u' : xk_St} {r : (Unit ⊕ Nat)} (h : fm_Reader_readData fu u = some (r, u')) :
    ∀ sz, xk_Met l ⟨"ModuleHouse$Reader", "readData", "()V"⟩ (Cond.code ⟨"ModuleHouse$Reader", "readData", "()V"⟩ prog_9_method_27_code 4 none :: xk_gd) rm_Reader_readData (xk_Pc D kx_cl (kx_ty ca) (kw_h ad ca) ads xk_F sz [.ref (ad 54)] u) (xk_Qc D kx_cl (kw_h ad ca) ads (xo_v r) u') (xk_A ads sz) := by
  unfold fm_Reader_readData at h
  refine xk_con (by decide) htr hok (Nat.le_of_ble_eq_true rfl) (fun p e s m below meth c ls C hne hl hP => ?_)
  have hx := C.1.1
  have hb := C.1.2.1
  have hS : va_S (xk_A ads s.heap.size) s.heap s.heap [] := va_S.rf
  have hl : lv_has ls 4 [(0, .ref (ad 54))] := hl
  refine lv_aload_n hx hb dd_Reader_readData_0 rfl (lv_at hl 0 rfl) ?_
  rcases xp_try h with ⟨a1, u2, hq, h⟩ | ⟨kx, ux, hq, h⟩
  rotate_left
  · obtain ⟨rfl, rfl⟩ := xp_q h
    exact xk_up (xr_V (As := []) (rest := []) C hP hS (ct_Reader_readNumber htr hok hq) kq_Reader_78 54 7 rfl rfl ⟨rfl, rfl, Nat.le_of_ble_eq_true rfl, Nat.le_of_ble_eq_true rfl⟩ ⟨Nat.le_of_ble_eq_true rfl, Nat.le_of_ble_eq_true rfl⟩ hl.1 rfl rfl (Nat.le_of_ble_eq_true rfl) dd_Reader_readData_1) hS hne C.2.2.2.2.2.2.1
  refine xk_goesI (xr_V (As := []) (rest := []) C hP hS (ct_Reader_readNumber htr hok hq) kq_Reader_78 54 7 rfl rfl ⟨rfl, rfl, Nat.le_of_ble_eq_true rfl, Nat.le_of_ble_eq_true rfl⟩ ⟨Nat.le_of_ble_eq_true rfl, Nat.le_of_ble_eq_true rfl⟩ hl.1 rfl rfl (Nat.le_of_ble_eq_true rfl) dd_Reader_readData_1) hS (fun H locs hP hS => ?_)
  clear hq
  refine lv_istore_n (lv' := [(1, .int a1), (0, .ref (ad 54))]) hx hb dd_Reader_readData_4 rfl hl (by decide) rfl (fun ls hl => ?_)
  refine lv_aload_n hx hb dd_Reader_readData_5 rfl (lv_at hl 1 rfl) ?_
  refine gf_h_Reader_54_module C hP dd_Reader_readData_6 ?_
  refine gf_h_Reader_4_data C hP dd_Reader_readData_9 ?_
  refine lv_iload_n hx hb dd_Reader_readData_12 rfl (lv_at hl 0 rfl) ?_
  refine pf_h_Reader_49_count C hP hS dd_Reader_readData_13 (fun H locs hP hS => ?_)
  obtain ⟨u3, eu3, h⟩ := xp_let h
  rw [← eu3] at hP
  refine lv_iconst (v := 0) hx hb dd_Reader_readData_16 (by decide) ?_
  refine lv_istore_n (lv' := [(2, .int (0 : Int32)), (1, .int a1), (0, .ref (ad 54))]) hx hb dd_Reader_readData_17 rfl hl (by decide) rfl (fun ls hl => ?_)
  exact wj_Reader_readData_18 htr C hne h hP hS (lv_sub hl [2, 1, 0] rfl)
abbrev rm_Reader_readFunctions : Room := { frames := 8, cells := 1, slots := 6, locals := 144 }
noncomputable def jb_Reader_readFunctions_18 (fu : Nat) : Nat → Int32 → Int32 → xk_St → Option ((Unit ⊕ Nat) × xk_St)
  | 0 => fun _ _ _ => none
  | n + 1 => fun b1 b2 u =>
    xs_let (jb_Reader_readFunctions_18 fu  n) fun k18 =>
    if b1 ≤ b2 then (some (.inl (()), u)) else ((xs_try (fm_Reader_readNumber fu u) fun a4 u5 => if (if (64 : Int32) < b2 then (64 : Int32) else b2) < 0 ∨ 65 ≤ (if (64 : Int32) < b2 then (64 : Int32) else b2).toNatClampNeg then none else xs_let (xs_A u5 12 (if (64 : Int32) < b2 then (64 : Int32) else b2).toNatClampNeg a4) fun u6 => xs_let (b2 + (1 : Int32)) fun a7 => k18 b1 a7 u6))
noncomputable def fm_Reader_readFunctions (fu : Nat) (u : xk_St) : Option ((Unit ⊕ Nat) × xk_St) :=
  (xs_try (fm_Reader_readNumber fu u) fun a1 u2 => xs_let (xs_I u2 10 a1) fun u3 => jb_Reader_readFunctions_18 fu fu a1 (0 : Int32) u3)
set_option maxHeartbeats 4000000 in
set_option maxRecDepth 100000 in
theorem wj_Reader_readFunctions_18 {p : Program} {l : Launch} {e : Env} {s : State} {m : MethodId} {args : Array Value} {below : List Frame} {meth : Method} {c : Code} {D : va_G} {ad : Nat → Nat} {ca : Nat → ClassId} {ads : List Nat} {fu : Nat} (htr : l.stackTraces = false) (C : xk_C D kx_cl (kx_ty ca) (kw_h ad ca) ads "ModuleHouse$Reader" prog_9_method_17_code 3 none p e s m args meth c) (hne : c.exceptionTable.isEmpty = true) {u' : xk_St} {r : (Unit ⊕ Nat)} : ∀ {n : Nat} {b1 : Int32} {b2 : Int32} {u : xk_St} {H : Heap} {locs : List Loc} {ls : Array Slot} (h : jb_Reader_readFunctions_18 fu  n b1 b2 u = some (r, u')) (hP : va_P D kx_cl (kw_h ad ca u) H) (hS : va_S (xk_A ads s.heap.size) s.heap H locs) (hl : lv_has ls 3 [(0, .ref (ad 54)), (1, .int b1), (2, .int b2)]), W p l e rm_Reader_readFunctions s m args below meth c H locs 0 0 (xk_MQ below (xk_Qc D kx_cl (kw_h ad ca) ads (xo_v r) u') args s (xk_A ads s.heap.size)) (F0 m 18 ls []) := by
  intro n
  have hx := C.1.1
  have hb := C.1.2.1
  have hok := C.2.2.1
  induction n with
  | zero =>
    intro _ _ u H locs ls h
    have h : none = some (r, u') := h
    cases h
  | succ n ih =>
    intro b1 b2 u H locs ls h hP hS hl
    unfold jb_Reader_readFunctions_18 at h
    obtain ⟨k18, ek18, h⟩ := xp_let h
    have hk18 : ∀ (c0 : Int32) (c1 : Int32) (u : xk_St) (H : Heap) (locs : List Loc) (ls : Array Slot), k18 c0 c1 u = some (r, u') → va_P D kx_cl (kw_h ad ca u) H → va_S (xk_A ads s.heap.size) s.heap H locs → lv_has ls 3 [(0, .ref (ad 54)), (1, .int c0), (2, .int c1)] → W p l e rm_Reader_readFunctions s m args below meth c H locs 0 0 (xk_MQ below (xk_Qc D kx_cl (kw_h ad ca) ads (xo_v r) u') args s (xk_A ads s.heap.size)) (F0 m 18 ls []) := by
      intro c0 c1 u H locs ls h hP hS hl
      subst ek18
      exact ih h hP hS hl
    clear ih ek18
    refine lv_iload_n hx hb dd_Reader_readFunctions_18 rfl (lv_at hl 2 rfl) ?_
    refine lv_iload_n hx hb dd_Reader_readFunctions_19 rfl (lv_at hl 1 rfl) ?_
    refine lv_icmp_ge (tgt := 50) hx hb dd_Reader_readFunctions_20 (by decide) (fun hc => ?_) (fun hc => ?_)
    · have h := xp_t hc h
      obtain ⟨rfl, rfl⟩ := xp_r h
      exact xr_vret C hP hS dd_Reader_readFunctions_50
    · have h := xp_f hc h
      refine lv_aload_n hx hb dd_Reader_readFunctions_23 rfl (lv_at hl 0 rfl) ?_
      refine gf_h_Reader_54_module C hP dd_Reader_readFunctions_24 ?_
      refine gf_h_Reader_4_functions C hP dd_Reader_readFunctions_27 ?_
      refine gf_h_Reader_19_kind C hP dd_Reader_readFunctions_30 ?_
      refine lv_iload_n hx hb dd_Reader_readFunctions_33 rfl (lv_at hl 2 rfl) ?_
      refine lv_bipush (v := 64) hx hb dd_Reader_readFunctions_34 (by decide) ?_
      refine va_mmin hx hb (C.1.2.2.1.trans hl.1.symm) C.1.2.2.2.1 (C.1.2.2.2.2 _ (xk_c4 (w := Cond.methodLink "ModuleHouse$Reader" 139 Lib.Math.min.name) 159 rfl rfl)) (C.1.2.2.2.2 _ (xk_c3 (w := Cond.static Lib.Math.min.name) 164 rfl rfl)) (C.1.2.2.2.2 _ (xk_c1 (w := Cond.initialized "java/lang/Math") 24 rfl rfl)) (C.1.2.2.2.2 _ (xk_c3 (w := Cond.code Lib.Math.min.name Lib.Math.min.code 2 (some .int)) 165 rfl rfl)) (Nat.le_of_ble_eq_true rfl) (Nat.le_of_ble_eq_true rfl) (Nat.zero_le _) (Nat.zero_le _) dd_Reader_readFunctions_36 ?_
      refine lv_aload_n hx hb dd_Reader_readFunctions_39 rfl (lv_at hl 0 rfl) ?_
      rcases xp_try h with ⟨a4, u5, hq, h⟩ | ⟨kx, ux, hq, h⟩
      rotate_left
      · obtain ⟨rfl, rfl⟩ := xp_q h
        exact xk_up (xr_V (As := []) (rest := [.int (if (64 : Int32) < b2 then (64 : Int32) else b2), .ref (ad 20)]) C hP hS (ct_Reader_readNumber htr hok hq) kq_Reader_78 54 7 rfl rfl ⟨rfl, rfl, Nat.le_of_ble_eq_true rfl, Nat.le_of_ble_eq_true rfl⟩ ⟨Nat.le_of_ble_eq_true rfl, Nat.le_of_ble_eq_true rfl⟩ hl.1 rfl rfl (Nat.le_of_ble_eq_true rfl) dd_Reader_readFunctions_40) hS hne C.2.2.2.2.2.2.1
      refine xk_goesI (xr_V (As := []) (rest := [.int (if (64 : Int32) < b2 then (64 : Int32) else b2), .ref (ad 20)]) C hP hS (ct_Reader_readNumber htr hok hq) kq_Reader_78 54 7 rfl rfl ⟨rfl, rfl, Nat.le_of_ble_eq_true rfl, Nat.le_of_ble_eq_true rfl⟩ ⟨Nat.le_of_ble_eq_true rfl, Nat.le_of_ble_eq_true rfl⟩ hl.1 rfl rfl (Nat.le_of_ble_eq_true rfl) dd_Reader_readFunctions_40) hS (fun H locs hP hS => ?_)
      clear hq
      obtain ⟨hi, h⟩ := xp_g h
      refine as_h_20 C hP hS hi dd_Reader_readFunctions_43 (fun H locs hP hS => ?_)
      obtain ⟨u6, eu6, h⟩ := xp_let h
      rw [← eu6] at hP
      obtain ⟨a7, ea7, h⟩ := xp_let h
      refine lv_iinc (v := a7) (lv' := [(2, .int a7), (0, .ref (ad 54)), (1, .int b1)]) hx hb dd_Reader_readFunctions_44 hl (k := 2) rfl (by rw [ea7]; first | rfl | decide) (by decide) rfl (fun ls hl => ?_)
      refine lv_goto (tgt := 18) hx hb dd_Reader_readFunctions_47 (by decide) ?_
      exact hk18 b1 a7 u6 _ _ _ h hP hS (lv_sub hl [1, 2, 0] rfl)
set_option maxHeartbeats 4000000 in
set_option maxRecDepth 100000 in
theorem ct_Reader_readFunctions {l : Launch} {D : va_G} {ad : Nat → Nat} {ca : Nat → ClassId} {ads : List Nat} (htr : l.stackTraces = false) (hok : xk_ok (kw_h ad ca) ads) {fu : Nat} {u u' : xk_St} {r : (Unit ⊕ Nat)} (h : fm_Reader_readFunctions fu u = some (r, u')) :
    ∀ sz, xk_Met l ⟨"ModuleHouse$Reader", "readFunctions", "()V"⟩ (Cond.code ⟨"ModuleHouse$Reader", "readFunctions", "()V"⟩ prog_9_method_17_code 3 none :: xk_gd) rm_Reader_readFunctions (xk_Pc D kx_cl (kx_ty ca) (kw_h ad ca) ads xk_F sz [.ref (ad 54)] u) (xk_Qc D kx_cl (kw_h ad ca) ads (xo_v r) u') (xk_A ads sz) := by
  unfold fm_Reader_readFunctions at h
  refine xk_con (by decide) htr hok (Nat.le_of_ble_eq_true rfl) (fun p e s m below meth c ls C hne hl hP => ?_)
  have hx := C.1.1
  have hb := C.1.2.1
  have hS : va_S (xk_A ads s.heap.size) s.heap s.heap [] := va_S.rf
  have hl : lv_has ls 3 [(0, .ref (ad 54))] := hl
  refine lv_aload_n hx hb dd_Reader_readFunctions_0 rfl (lv_at hl 0 rfl) ?_
  rcases xp_try h with ⟨a1, u2, hq, h⟩ | ⟨kx, ux, hq, h⟩
  rotate_left
  · obtain ⟨rfl, rfl⟩ := xp_q h
    exact xk_up (xr_V (As := []) (rest := []) C hP hS (ct_Reader_readNumber htr hok hq) kq_Reader_78 54 7 rfl rfl ⟨rfl, rfl, Nat.le_of_ble_eq_true rfl, Nat.le_of_ble_eq_true rfl⟩ ⟨Nat.le_of_ble_eq_true rfl, Nat.le_of_ble_eq_true rfl⟩ hl.1 rfl rfl (Nat.le_of_ble_eq_true rfl) dd_Reader_readFunctions_1) hS hne C.2.2.2.2.2.2.1
  refine xk_goesI (xr_V (As := []) (rest := []) C hP hS (ct_Reader_readNumber htr hok hq) kq_Reader_78 54 7 rfl rfl ⟨rfl, rfl, Nat.le_of_ble_eq_true rfl, Nat.le_of_ble_eq_true rfl⟩ ⟨Nat.le_of_ble_eq_true rfl, Nat.le_of_ble_eq_true rfl⟩ hl.1 rfl rfl (Nat.le_of_ble_eq_true rfl) dd_Reader_readFunctions_1) hS (fun H locs hP hS => ?_)
  clear hq
  refine lv_istore_n (lv' := [(1, .int a1), (0, .ref (ad 54))]) hx hb dd_Reader_readFunctions_4 rfl hl (by decide) rfl (fun ls hl => ?_)
  refine lv_aload_n hx hb dd_Reader_readFunctions_5 rfl (lv_at hl 1 rfl) ?_
  refine gf_h_Reader_54_module C hP dd_Reader_readFunctions_6 ?_
  refine gf_h_Reader_4_functions C hP dd_Reader_readFunctions_9 ?_
  refine lv_iload_n hx hb dd_Reader_readFunctions_12 rfl (lv_at hl 0 rfl) ?_
  refine pf_h_Reader_19_count C hP hS dd_Reader_readFunctions_13 (fun H locs hP hS => ?_)
  obtain ⟨u3, eu3, h⟩ := xp_let h
  rw [← eu3] at hP
  refine lv_iconst (v := 0) hx hb dd_Reader_readFunctions_16 (by decide) ?_
  refine lv_istore_n (lv' := [(2, .int (0 : Int32)), (1, .int a1), (0, .ref (ad 54))]) hx hb dd_Reader_readFunctions_17 rfl hl (by decide) rfl (fun ls hl => ?_)
  exact wj_Reader_readFunctions_18 htr C hne h hP hS (lv_sub hl [2, 1, 0] rfl)
abbrev rm_Reader_readLimits : Room := { frames := 8, cells := 1, slots := 6, locals := 144 }
noncomputable def fm_Reader_readLimits (fu : Nat) (x1 : Int32) (u : xk_St) : Option ((Unit ⊕ Nat) × xk_St) :=
  (xs_try (fm_Reader_readFlag u) fun a1 u2 => xs_try (fm_Reader_readNumber fu u2) fun a3 u4 => if x1 < 0 ∨ 65 ≤ x1.toNatClampNeg then none else xs_let (xs_A u4 16 x1.toNatClampNeg a3) fun u5 => if a1 = (1 : Int32) then ((xs_try (fm_Reader_readNumber fu u5) fun a7 u8 => if x1 < 0 ∨ 65 ≤ x1.toNatClampNeg then none else xs_let (xs_A u8 17 x1.toNatClampNeg a7) fun u9 => some (.inl (()), u9))) else ((if x1 < 0 ∨ 65 ≤ x1.toNatClampNeg then none else xs_let (xs_A u5 17 x1.toNatClampNeg (2147483647 : Int32)) fun u6 => some (.inl (()), u6))))
set_option maxHeartbeats 4000000 in
set_option maxRecDepth 100000 in
theorem ct_Reader_readLimits {l : Launch} {D : va_G} {ad : Nat → Nat} {ca : Nat → ClassId} {ads : List Nat} (htr : l.stackTraces = false) (hok : xk_ok (kw_h ad ca) ads) {fu : Nat} {x1 : Int32} {u u' : xk_St} {r : (Unit ⊕ Nat)} (h : fm_Reader_readLimits fu x1 u = some (r, u')) :
    ∀ sz, xk_Met l ⟨"ModuleHouse$Reader", "readLimits", "(LModuleHouse$Row;I)V"⟩ (Cond.code ⟨"ModuleHouse$Reader", "readLimits", "(LModuleHouse$Row;I)V"⟩ prog_9_method_20_code 4 none :: xk_gd) rm_Reader_readLimits (xk_Pc D kx_cl (kx_ty ca) (kw_h ad ca) ads xk_F sz [.ref (ad 54), .ref (ad 24), .int x1] u) (xk_Qc D kx_cl (kw_h ad ca) ads (xo_v r) u') (xk_A ads sz) := by
  unfold fm_Reader_readLimits at h
  refine xk_con (by decide) htr hok (Nat.le_of_ble_eq_true rfl) (fun p e s m below meth c ls C hne hl hP => ?_)
  have hx := C.1.1
  have hb := C.1.2.1
  have hS : va_S (xk_A ads s.heap.size) s.heap s.heap [] := va_S.rf
  have hl : lv_has ls 4 [(0, .ref (ad 54)), (1, .ref (ad 24)), (2, .int x1)] := hl
  refine lv_aload_n hx hb dd_Reader_readLimits_0 rfl (lv_at hl 0 rfl) ?_
  rcases xp_try h with ⟨a1, u2, hq, h⟩ | ⟨kx, ux, hq, h⟩
  rotate_left
  · obtain ⟨rfl, rfl⟩ := xp_q h
    exact xk_up (xr_V (As := []) (rest := []) C hP hS (ct_Reader_readFlag htr hok hq) kq_Reader_165 54 7 rfl rfl ⟨rfl, rfl, Nat.le_of_ble_eq_true rfl, Nat.le_of_ble_eq_true rfl⟩ ⟨Nat.le_of_ble_eq_true rfl, Nat.le_of_ble_eq_true rfl⟩ hl.1 rfl rfl (Nat.le_of_ble_eq_true rfl) dd_Reader_readLimits_1) hS hne C.2.2.2.2.2.2.1
  refine xk_goesI (xr_V (As := []) (rest := []) C hP hS (ct_Reader_readFlag htr hok hq) kq_Reader_165 54 7 rfl rfl ⟨rfl, rfl, Nat.le_of_ble_eq_true rfl, Nat.le_of_ble_eq_true rfl⟩ ⟨Nat.le_of_ble_eq_true rfl, Nat.le_of_ble_eq_true rfl⟩ hl.1 rfl rfl (Nat.le_of_ble_eq_true rfl) dd_Reader_readLimits_1) hS (fun H locs hP hS => ?_)
  clear hq
  refine lv_istore_n (lv' := [(3, .int a1), (0, .ref (ad 54)), (1, .ref (ad 24)), (2, .int x1)]) hx hb dd_Reader_readLimits_4 rfl hl (by decide) rfl (fun ls hl => ?_)
  refine lv_aload_n hx hb dd_Reader_readLimits_5 rfl (lv_at hl 2 rfl) ?_
  refine gf_h_Reader_24_first C hP dd_Reader_readLimits_6 ?_
  refine lv_iload_n hx hb dd_Reader_readLimits_9 rfl (lv_at hl 3 rfl) ?_
  refine lv_aload_n hx hb dd_Reader_readLimits_10 rfl (lv_at hl 1 rfl) ?_
  rcases xp_try h with ⟨a3, u4, hq, h⟩ | ⟨kx, ux, hq, h⟩
  rotate_left
  · obtain ⟨rfl, rfl⟩ := xp_q h
    exact xk_up (xr_V (As := []) (rest := [.int x1, .ref (ad 26)]) C hP hS (ct_Reader_readNumber htr hok hq) kq_Reader_78 54 7 rfl rfl ⟨rfl, rfl, Nat.le_of_ble_eq_true rfl, Nat.le_of_ble_eq_true rfl⟩ ⟨Nat.le_of_ble_eq_true rfl, Nat.le_of_ble_eq_true rfl⟩ hl.1 rfl rfl (Nat.le_of_ble_eq_true rfl) dd_Reader_readLimits_11) hS hne C.2.2.2.2.2.2.1
  refine xk_goesI (xr_V (As := []) (rest := [.int x1, .ref (ad 26)]) C hP hS (ct_Reader_readNumber htr hok hq) kq_Reader_78 54 7 rfl rfl ⟨rfl, rfl, Nat.le_of_ble_eq_true rfl, Nat.le_of_ble_eq_true rfl⟩ ⟨Nat.le_of_ble_eq_true rfl, Nat.le_of_ble_eq_true rfl⟩ hl.1 rfl rfl (Nat.le_of_ble_eq_true rfl) dd_Reader_readLimits_11) hS (fun H locs hP hS => ?_)
  clear hq
  obtain ⟨hi, h⟩ := xp_g h
  refine as_h_26 C hP hS hi dd_Reader_readLimits_14 (fun H locs hP hS => ?_)
  obtain ⟨u5, eu5, h⟩ := xp_let h
  rw [← eu5] at hP
  refine lv_aload_n hx hb dd_Reader_readLimits_15 rfl (lv_at hl 2 rfl) ?_
  refine gf_h_Reader_24_second C hP dd_Reader_readLimits_16 ?_
  refine lv_iload_n hx hb dd_Reader_readLimits_19 rfl (lv_at hl 3 rfl) ?_
  refine lv_iload_n hx hb dd_Reader_readLimits_20 rfl (lv_at hl 0 rfl) ?_
  refine lv_iconst (v := 1) hx hb dd_Reader_readLimits_21 (by decide) ?_
  refine lv_icmp_ne (tgt := 32) hx hb dd_Reader_readLimits_22 (by decide) (fun hc => ?_) (fun hc => ?_)
  · have h := xp_f hc h
    refine lv_ldc (v := 2147483647) hx hb C.1.2.2.2.1 (C.1.2.2.2.2 _ (xk_c4 (w := Jvm.Cond.constant "ModuleHouse$Reader" 195 2147483647) 218 rfl rfl)) dd_Reader_readLimits_32 ?_
    obtain ⟨hi, h⟩ := xp_g h
    refine as_h_27 C hP hS hi dd_Reader_readLimits_34 (fun H locs hP hS => ?_)
    obtain ⟨u6, eu6, h⟩ := xp_let h
    rw [← eu6] at hP
    obtain ⟨rfl, rfl⟩ := xp_r h
    exact xr_vret C hP hS dd_Reader_readLimits_35
  · have h := xp_t hc h
    refine lv_aload_n hx hb dd_Reader_readLimits_25 rfl (lv_at hl 1 rfl) ?_
    rcases xp_try h with ⟨a7, u8, hq, h⟩ | ⟨kx, ux, hq, h⟩
    rotate_left
    · obtain ⟨rfl, rfl⟩ := xp_q h
      exact xk_up (xr_V (As := []) (rest := [.int x1, .ref (ad 27)]) C hP hS (ct_Reader_readNumber htr hok hq) kq_Reader_78 54 7 rfl rfl ⟨rfl, rfl, Nat.le_of_ble_eq_true rfl, Nat.le_of_ble_eq_true rfl⟩ ⟨Nat.le_of_ble_eq_true rfl, Nat.le_of_ble_eq_true rfl⟩ hl.1 rfl rfl (Nat.le_of_ble_eq_true rfl) dd_Reader_readLimits_26) hS hne C.2.2.2.2.2.2.1
    refine xk_goesI (xr_V (As := []) (rest := [.int x1, .ref (ad 27)]) C hP hS (ct_Reader_readNumber htr hok hq) kq_Reader_78 54 7 rfl rfl ⟨rfl, rfl, Nat.le_of_ble_eq_true rfl, Nat.le_of_ble_eq_true rfl⟩ ⟨Nat.le_of_ble_eq_true rfl, Nat.le_of_ble_eq_true rfl⟩ hl.1 rfl rfl (Nat.le_of_ble_eq_true rfl) dd_Reader_readLimits_26) hS (fun H locs hP hS => ?_)
    clear hq
    refine lv_goto (tgt := 34) hx hb dd_Reader_readLimits_29 (by decide) ?_
    obtain ⟨hi, h⟩ := xp_g h
    refine as_h_27 C hP hS hi dd_Reader_readLimits_34 (fun H locs hP hS => ?_)
    obtain ⟨u9, eu9, h⟩ := xp_let h
    rw [← eu9] at hP
    obtain ⟨rfl, rfl⟩ := xp_r h
    exact xr_vret C hP hS dd_Reader_readLimits_35
