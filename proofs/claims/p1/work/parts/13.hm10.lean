abbrev rm_Types_alike : Room := { frames := 4, cells := 1, slots := 6, locals := 66 }
noncomputable def jb_Types_alike_140 (fu : Nat) : Nat → Int32 → Int32 → Int32 → Int32 → Int32 → Int32 → xk_St → Option (Int32 × xk_St)
  | 0 => fun _ _ _ _ _ _ _ => none
  | n + 1 => fun b1 b2 b3 b4 b5 b6 u =>
    xs_let (jb_Types_alike_140 fu  n) fun k140 =>
    if ((17 : Int32) + b5) ≤ b6 then (some ((1 : Int32), u)) else ((if (b3 + b6) < 0 ∨ 2210 ≤ (b3 + b6).toNatClampNeg then none else if (b4 + b6) < 0 ∨ 2210 ≤ (b4 + b6).toNatClampNeg then none else xs_seq (fm_Types_alikeWithin (u.2.2.1 6 (b3 + b6).toNatClampNeg) b1 (u.2.2.1 6 (b4 + b6).toNatClampNeg) b2 u) fun a3 u4 => if a3 = (0 : Int32) then (some ((0 : Int32), u4)) else ((xs_let (b6 + (1 : Int32)) fun a5 => k140 b1 b2 b3 b4 b5 a5 u4))))
noncomputable def jb_Types_alike_89 (fu : Nat) : Nat → Int32 → Int32 → Int32 → Int32 → Int32 → Int32 → xk_St → Option (Int32 × xk_St)
  | 0 => fun _ _ _ _ _ _ _ => none
  | n + 1 => fun b1 b2 b3 b4 b5 b6 u =>
    xs_let (jb_Types_alike_89 fu  n) fun k89 =>
    (if b1 < 0 ∨ 65 ≤ b1.toNatClampNeg then none else if (u.2.2.1 3 b1.toNatClampNeg) ≤ b6 then (jb_Types_alike_140 fu fu b1 b2 b3 b4 b5 (17 : Int32) u) else ((if (b3 + b6) < 0 ∨ 2210 ≤ (b3 + b6).toNatClampNeg then none else if (b4 + b6) < 0 ∨ 2210 ≤ (b4 + b6).toNatClampNeg then none else xs_seq (fm_Types_alikeWithin (u.2.2.1 6 (b3 + b6).toNatClampNeg) b1 (u.2.2.1 6 (b4 + b6).toNatClampNeg) b2 u) fun a6 u7 => if a6 = (0 : Int32) then (some ((0 : Int32), u7)) else ((xs_let (b6 + (1 : Int32)) fun a8 => k89 b1 b2 b3 b4 b5 a8 u7)))))
noncomputable def jb_Types_alike_84 (fu : Nat) (b1 : Int32) (b2 : Int32) (b3 : Int32) (b4 : Int32) (s0 : Int32) (u : xk_St) : Option (Int32 × xk_St) :=
  jb_Types_alike_89 fu fu b1 b2 b3 b4 s0 (0 : Int32) u
noncomputable def fm_Types_alike (fu : Nat) (x0 : Int32) (x1 : Int32) (u : xk_St) : Option (Int32 × xk_St) :=
  (if x0 < 0 ∨ 65 ≤ x0.toNatClampNeg then none else if x1 < 0 ∨ 65 ≤ x1.toNatClampNeg then none else if (u.2.2.1 2 x0.toNatClampNeg) = (u.2.2.1 2 x1.toNatClampNeg) then ((if x0 < 0 ∨ 65 ≤ x0.toNatClampNeg then none else if x1 < 0 ∨ 65 ≤ x1.toNatClampNeg then none else if (u.2.2.1 3 x0.toNatClampNeg) = (u.2.2.1 3 x1.toNatClampNeg) then ((if x0 < 0 ∨ 65 ≤ x0.toNatClampNeg then none else if x1 < 0 ∨ 65 ≤ x1.toNatClampNeg then none else if (u.2.2.1 4 x0.toNatClampNeg) = (u.2.2.1 4 x1.toNatClampNeg) then ((xs_let ((34 : Int32) * x0) fun a1 => xs_let ((34 : Int32) * x1) fun a2 => if x0 < 0 ∨ 65 ≤ x0.toNatClampNeg then none else if (u.2.2.1 2 x0.toNatClampNeg) = (96 : Int32) then ((if x0 < 0 ∨ 65 ≤ x0.toNatClampNeg then none else jb_Types_alike_84 fu x0 x1 a1 a2 (u.2.2.1 4 x0.toNatClampNeg) u)) else ((if x0 < 0 ∨ 65 ≤ x0.toNatClampNeg then none else jb_Types_alike_84 fu x0 x1 a1 a2 (u.2.2.1 3 x0.toNatClampNeg) u)))) else (some ((0 : Int32), u)))) else (some ((0 : Int32), u)))) else (some ((0 : Int32), u)))
set_option maxHeartbeats 4000000 in
set_option maxRecDepth 100000 in
theorem wj_Types_alike_140 {p : Program} {l : Launch} {e : Env} {s : State} {m : MethodId} {args : Array Value} {below : List Frame} {meth : Method} {c : Code} {D : va_G} {ad : Nat → Nat} {ca : Nat → ClassId} {ads : List Nat} {fu : Nat} (htr : l.stackTraces = false) (C : xk_C D kx_cl (kx_ty ca) (kw_h ad ca) ads "ModuleHouse$Types" prog_11_method_19_code 7 (some .boolean) p e s m args meth c) (hne : c.exceptionTable.isEmpty = true) {u' : xk_St} {r : Int32} : ∀ {n : Nat} {b1 : Int32} {b2 : Int32} {b3 : Int32} {b4 : Int32} {b5 : Int32} {b6 : Int32} {u : xk_St} {H : Heap} {locs : List Loc} {ls : Array Slot} (h : jb_Types_alike_140 fu  n b1 b2 b3 b4 b5 b6 u = some (r, u')) (hP : va_P D kx_cl (kw_h ad ca u) H) (hS : va_S (xk_A ads s.heap.size) s.heap H locs) (hl : lv_has ls 7 [(0, .ref (ad 6)), (1, .int b1), (2, .int b2), (3, .int b3), (4, .int b4), (5, .int b5), (6, .int b6)]), W p l e rm_Types_alike s m args below meth c H locs 0 0 (xk_MQ below (xk_Qc D kx_cl (kw_h ad ca) ads (xo_i (.inl r)) u') args s (xk_A ads s.heap.size)) (F0 m 140 ls []) := by
  intro n
  have hx := C.1.1
  have hb := C.1.2.1
  have hok := C.2.2.1
  induction n with
  | zero =>
    intro _ _ _ _ _ _ u H locs ls h
    have h : none = some (r, u') := h
    cases h
  | succ n ih =>
    intro b1 b2 b3 b4 b5 b6 u H locs ls h hP hS hl
    unfold jb_Types_alike_140 at h
    obtain ⟨k140, ek140, h⟩ := xp_let h
    have hk140 : ∀ (c0 : Int32) (c1 : Int32) (c2 : Int32) (c3 : Int32) (c4 : Int32) (c5 : Int32) (u : xk_St) (H : Heap) (locs : List Loc) (ls : Array Slot), k140 c0 c1 c2 c3 c4 c5 u = some (r, u') → va_P D kx_cl (kw_h ad ca u) H → va_S (xk_A ads s.heap.size) s.heap H locs → lv_has ls 7 [(0, .ref (ad 6)), (1, .int c0), (2, .int c1), (3, .int c2), (4, .int c3), (5, .int c4), (6, .int c5)] → W p l e rm_Types_alike s m args below meth c H locs 0 0 (xk_MQ below (xk_Qc D kx_cl (kw_h ad ca) ads (xo_i (.inl r)) u') args s (xk_A ads s.heap.size)) (F0 m 140 ls []) := by
      intro c0 c1 c2 c3 c4 c5 u H locs ls h hP hS hl
      subst ek140
      exact ih h hP hS hl
    clear ih ek140
    refine lv_iload hx hb dd_Types_alike_140 (lv_at hl 6 rfl) ?_
    refine lv_bipush (v := 17) hx hb dd_Types_alike_142 (by decide) ?_
    refine lv_iload hx hb dd_Types_alike_144 (lv_at hl 5 rfl) ?_
    refine lv_iadd hx hb dd_Types_alike_146 ?_
    refine lv_icmp_ge (tgt := 186) hx hb dd_Types_alike_147 (by decide) (fun hc => ?_) (fun hc => ?_)
    · have h := xp_t hc h
      refine lv_iconst (v := 1) hx hb dd_Types_alike_186 (by decide) ?_
      obtain ⟨rfl, rfl⟩ := xp_r h
      exact xr_zret C hP hS (by decide) dd_Types_alike_187
    · have h := xp_f hc h
      refine lv_aload_n hx hb dd_Types_alike_150 rfl (lv_at hl 0 rfl) ?_
      refine lv_aload_n hx hb dd_Types_alike_151 rfl (lv_at hl 0 rfl) ?_
      refine gf_h_Types_6_part C hP dd_Types_alike_152 ?_
      refine lv_iload_n hx hb dd_Types_alike_155 rfl (lv_at hl 3 rfl) ?_
      refine lv_iload hx hb dd_Types_alike_156 (lv_at hl 6 rfl) ?_
      refine lv_iadd hx hb dd_Types_alike_158 ?_
      obtain ⟨hi, h⟩ := xp_g h
      refine al_h_11 C hP hi dd_Types_alike_159 ?_
      refine lv_iload_n hx hb dd_Types_alike_160 rfl (lv_at hl 1 rfl) ?_
      refine lv_aload_n hx hb dd_Types_alike_161 rfl (lv_at hl 0 rfl) ?_
      refine gf_h_Types_6_part C hP dd_Types_alike_162 ?_
      refine lv_iload hx hb dd_Types_alike_165 (lv_at hl 4 rfl) ?_
      refine lv_iload hx hb dd_Types_alike_167 (lv_at hl 6 rfl) ?_
      refine lv_iadd hx hb dd_Types_alike_169 ?_
      obtain ⟨hi, h⟩ := xp_g h
      refine al_h_11 C hP hi dd_Types_alike_170 ?_
      refine lv_iload_n hx hb dd_Types_alike_171 rfl (lv_at hl 2 rfl) ?_
      obtain ⟨a3, u4, hq, h⟩ := xp_seq h
      refine xk_goesI (xr_V (As := [.int (u.2.2.1 6 (b3 + b6).toNatClampNeg), .int b1, .int (u.2.2.1 6 (b4 + b6).toNatClampNeg), .int b2]) (rest := []) C hP hS (ct_Types_alikeWithin htr hok hq) kq_Types_61 6 9 rfl rfl ⟨rfl, rfl, Nat.le_of_ble_eq_true rfl, Nat.le_of_ble_eq_true rfl⟩ ⟨Nat.le_of_ble_eq_true rfl, Nat.le_of_ble_eq_true rfl⟩ hl.1 rfl rfl (Nat.le_of_ble_eq_true rfl) dd_Types_alike_172) hS (fun H locs hP hS => ?_)
      clear hq
      refine lv_if_ne (tgt := 180) hx hb dd_Types_alike_175 (by decide) (fun hc => ?_) (fun hc => ?_)
      · have h := xp_f hc h
        obtain ⟨a5, ea5, h⟩ := xp_let h
        refine lv_iinc (v := a5) (lv' := [(6, .int a5), (0, .ref (ad 6)), (1, .int b1), (2, .int b2), (3, .int b3), (4, .int b4), (5, .int b5)]) hx hb dd_Types_alike_180 hl (k := 6) rfl (by rw [ea5]; first | rfl | decide) (by decide) rfl (fun ls hl => ?_)
        refine lv_goto (tgt := 140) hx hb dd_Types_alike_183 (by decide) ?_
        exact hk140 b1 b2 b3 b4 b5 a5 u4 _ _ _ h hP hS (lv_sub hl [1, 2, 3, 4, 5, 6, 0] rfl)
      · have h := xp_t hc h
        refine lv_iconst (v := 0) hx hb dd_Types_alike_178 (by decide) ?_
        obtain ⟨rfl, rfl⟩ := xp_r h
        exact xr_zret C hP hS (by decide) dd_Types_alike_179
set_option maxHeartbeats 4000000 in
set_option maxRecDepth 100000 in
theorem wj_Types_alike_89 {p : Program} {l : Launch} {e : Env} {s : State} {m : MethodId} {args : Array Value} {below : List Frame} {meth : Method} {c : Code} {D : va_G} {ad : Nat → Nat} {ca : Nat → ClassId} {ads : List Nat} {fu : Nat} (htr : l.stackTraces = false) (C : xk_C D kx_cl (kx_ty ca) (kw_h ad ca) ads "ModuleHouse$Types" prog_11_method_19_code 7 (some .boolean) p e s m args meth c) (hne : c.exceptionTable.isEmpty = true) {u' : xk_St} {r : Int32} : ∀ {n : Nat} {b1 : Int32} {b2 : Int32} {b3 : Int32} {b4 : Int32} {b5 : Int32} {b6 : Int32} {u : xk_St} {H : Heap} {locs : List Loc} {ls : Array Slot} (h : jb_Types_alike_89 fu  n b1 b2 b3 b4 b5 b6 u = some (r, u')) (hP : va_P D kx_cl (kw_h ad ca u) H) (hS : va_S (xk_A ads s.heap.size) s.heap H locs) (hl : lv_has ls 7 [(0, .ref (ad 6)), (1, .int b1), (2, .int b2), (3, .int b3), (4, .int b4), (5, .int b5), (6, .int b6)]), W p l e rm_Types_alike s m args below meth c H locs 0 0 (xk_MQ below (xk_Qc D kx_cl (kw_h ad ca) ads (xo_i (.inl r)) u') args s (xk_A ads s.heap.size)) (F0 m 89 ls []) := by
  intro n
  have hx := C.1.1
  have hb := C.1.2.1
  have hok := C.2.2.1
  induction n with
  | zero =>
    intro _ _ _ _ _ _ u H locs ls h
    have h : none = some (r, u') := h
    cases h
  | succ n ih =>
    intro b1 b2 b3 b4 b5 b6 u H locs ls h hP hS hl
    unfold jb_Types_alike_89 at h
    obtain ⟨k89, ek89, h⟩ := xp_let h
    have hk89 : ∀ (c0 : Int32) (c1 : Int32) (c2 : Int32) (c3 : Int32) (c4 : Int32) (c5 : Int32) (u : xk_St) (H : Heap) (locs : List Loc) (ls : Array Slot), k89 c0 c1 c2 c3 c4 c5 u = some (r, u') → va_P D kx_cl (kw_h ad ca u) H → va_S (xk_A ads s.heap.size) s.heap H locs → lv_has ls 7 [(0, .ref (ad 6)), (1, .int c0), (2, .int c1), (3, .int c2), (4, .int c3), (5, .int c4), (6, .int c5)] → W p l e rm_Types_alike s m args below meth c H locs 0 0 (xk_MQ below (xk_Qc D kx_cl (kw_h ad ca) ads (xo_i (.inl r)) u') args s (xk_A ads s.heap.size)) (F0 m 89 ls []) := by
      intro c0 c1 c2 c3 c4 c5 u H locs ls h hP hS hl
      subst ek89
      exact ih h hP hS hl
    clear ih ek89
    refine lv_iload hx hb dd_Types_alike_89 (lv_at hl 6 rfl) ?_
    refine lv_aload_n hx hb dd_Types_alike_91 rfl (lv_at hl 0 rfl) ?_
    refine gf_h_Types_6_members C hP dd_Types_alike_92 ?_
    refine lv_iload_n hx hb dd_Types_alike_95 rfl (lv_at hl 1 rfl) ?_
    obtain ⟨hi, h⟩ := xp_g h
    refine al_h_8 C hP hi dd_Types_alike_96 ?_
    refine lv_icmp_ge (tgt := 136) hx hb dd_Types_alike_97 (by decide) (fun hc => ?_) (fun hc => ?_)
    · have h := xp_t hc h
      refine lv_bipush (v := 17) hx hb dd_Types_alike_136 (by decide) ?_
      refine lv_istore (lv' := [(6, .int (17 : Int32)), (0, .ref (ad 6)), (1, .int b1), (2, .int b2), (3, .int b3), (4, .int b4), (5, .int b5)]) hx hb dd_Types_alike_138 hl (by decide) rfl (fun ls hl => ?_)
      exact wj_Types_alike_140 htr C hne h hP hS (lv_sub hl [1, 2, 3, 4, 5, 6, 0] rfl)
    · have h := xp_f hc h
      refine lv_aload_n hx hb dd_Types_alike_100 rfl (lv_at hl 0 rfl) ?_
      refine lv_aload_n hx hb dd_Types_alike_101 rfl (lv_at hl 0 rfl) ?_
      refine gf_h_Types_6_part C hP dd_Types_alike_102 ?_
      refine lv_iload_n hx hb dd_Types_alike_105 rfl (lv_at hl 3 rfl) ?_
      refine lv_iload hx hb dd_Types_alike_106 (lv_at hl 6 rfl) ?_
      refine lv_iadd hx hb dd_Types_alike_108 ?_
      obtain ⟨hi, h⟩ := xp_g h
      refine al_h_11 C hP hi dd_Types_alike_109 ?_
      refine lv_iload_n hx hb dd_Types_alike_110 rfl (lv_at hl 1 rfl) ?_
      refine lv_aload_n hx hb dd_Types_alike_111 rfl (lv_at hl 0 rfl) ?_
      refine gf_h_Types_6_part C hP dd_Types_alike_112 ?_
      refine lv_iload hx hb dd_Types_alike_115 (lv_at hl 4 rfl) ?_
      refine lv_iload hx hb dd_Types_alike_117 (lv_at hl 6 rfl) ?_
      refine lv_iadd hx hb dd_Types_alike_119 ?_
      obtain ⟨hi, h⟩ := xp_g h
      refine al_h_11 C hP hi dd_Types_alike_120 ?_
      refine lv_iload_n hx hb dd_Types_alike_121 rfl (lv_at hl 2 rfl) ?_
      obtain ⟨a6, u7, hq, h⟩ := xp_seq h
      refine xk_goesI (xr_V (As := [.int (u.2.2.1 6 (b3 + b6).toNatClampNeg), .int b1, .int (u.2.2.1 6 (b4 + b6).toNatClampNeg), .int b2]) (rest := []) C hP hS (ct_Types_alikeWithin htr hok hq) kq_Types_61 6 9 rfl rfl ⟨rfl, rfl, Nat.le_of_ble_eq_true rfl, Nat.le_of_ble_eq_true rfl⟩ ⟨Nat.le_of_ble_eq_true rfl, Nat.le_of_ble_eq_true rfl⟩ hl.1 rfl rfl (Nat.le_of_ble_eq_true rfl) dd_Types_alike_122) hS (fun H locs hP hS => ?_)
      clear hq
      refine lv_if_ne (tgt := 130) hx hb dd_Types_alike_125 (by decide) (fun hc => ?_) (fun hc => ?_)
      · have h := xp_f hc h
        obtain ⟨a8, ea8, h⟩ := xp_let h
        refine lv_iinc (v := a8) (lv' := [(6, .int a8), (0, .ref (ad 6)), (1, .int b1), (2, .int b2), (3, .int b3), (4, .int b4), (5, .int b5)]) hx hb dd_Types_alike_130 hl (k := 6) rfl (by rw [ea8]; first | rfl | decide) (by decide) rfl (fun ls hl => ?_)
        refine lv_goto (tgt := 89) hx hb dd_Types_alike_133 (by decide) ?_
        exact hk89 b1 b2 b3 b4 b5 a8 u7 _ _ _ h hP hS (lv_sub hl [1, 2, 3, 4, 5, 6, 0] rfl)
      · have h := xp_t hc h
        refine lv_iconst (v := 0) hx hb dd_Types_alike_128 (by decide) ?_
        obtain ⟨rfl, rfl⟩ := xp_r h
        exact xr_zret C hP hS (by decide) dd_Types_alike_129
set_option maxHeartbeats 4000000 in
set_option maxRecDepth 100000 in
theorem wj_Types_alike_84 {p : Program} {l : Launch} {e : Env} {s : State} {m : MethodId} {args : Array Value} {below : List Frame} {meth : Method} {c : Code} {D : va_G} {ad : Nat → Nat} {ca : Nat → ClassId} {ads : List Nat} {fu : Nat} (htr : l.stackTraces = false) (C : xk_C D kx_cl (kx_ty ca) (kw_h ad ca) ads "ModuleHouse$Types" prog_11_method_19_code 7 (some .boolean) p e s m args meth c) (hne : c.exceptionTable.isEmpty = true) {u' : xk_St} {r : Int32} {b1 : Int32} {b2 : Int32} {b3 : Int32} {b4 : Int32} {s0 : Int32} {u : xk_St} {H : Heap} {locs : List Loc} {ls : Array Slot} (h : jb_Types_alike_84 fu  b1 b2 b3 b4 s0 u = some (r, u')) (hP : va_P D kx_cl (kw_h ad ca u) H) (hS : va_S (xk_A ads s.heap.size) s.heap H locs) (hl : lv_has ls 7 [(0, .ref (ad 6)), (1, .int b1), (2, .int b2), (3, .int b3), (4, .int b4)]) : W p l e rm_Types_alike s m args below meth c H locs 0 0 (xk_MQ below (xk_Qc D kx_cl (kw_h ad ca) ads (xo_i (.inl r)) u') args s (xk_A ads s.heap.size)) (F0 m 84 ls [.int s0]) := by
  have hx := C.1.1
  have hb := C.1.2.1
  have hok := C.2.2.1
  unfold jb_Types_alike_84 at h
  refine lv_istore (lv' := [(5, .int s0), (0, .ref (ad 6)), (1, .int b1), (2, .int b2), (3, .int b3), (4, .int b4)]) hx hb dd_Types_alike_84 hl (by decide) rfl (fun ls hl => ?_)
  refine lv_iconst (v := 0) hx hb dd_Types_alike_86 (by decide) ?_
  refine lv_istore (lv' := [(6, .int (0 : Int32)), (5, .int s0), (0, .ref (ad 6)), (1, .int b1), (2, .int b2), (3, .int b3), (4, .int b4)]) hx hb dd_Types_alike_87 hl (by decide) rfl (fun ls hl => ?_)
  exact wj_Types_alike_89 htr C hne h hP hS (lv_sub hl [2, 3, 4, 5, 6, 1, 0] rfl)
set_option maxHeartbeats 4000000 in
set_option maxRecDepth 100000 in
theorem ct_Types_alike {l : Launch} {D : va_G} {ad : Nat → Nat} {ca : Nat → ClassId} {ads : List Nat} (htr : l.stackTraces = false) (hok : xk_ok (kw_h ad ca) ads) {fu : Nat} {x0 : Int32} {x1 : Int32} {u u' : xk_St} {r : Int32} (h : fm_Types_alike fu x0 x1 u = some (r, u')) :
    ∀ sz, xk_Met l ⟨"ModuleHouse$Types", "alike", "(II)Z"⟩ (Cond.code ⟨"ModuleHouse$Types", "alike", "(II)Z"⟩ prog_11_method_19_code 7 (some .boolean) :: xk_gd) rm_Types_alike (xk_Pc D kx_cl (kx_ty ca) (kw_h ad ca) ads xk_F sz [.ref (ad 6), .int x0, .int x1] u) (xk_Qc D kx_cl (kw_h ad ca) ads (xo_i (.inl r)) u') (xk_A ads sz) := by
  unfold fm_Types_alike at h
  refine xk_con (by decide) htr hok (Nat.le_of_ble_eq_true rfl) (fun p e s m below meth c ls C hne hl hP => ?_)
  have hx := C.1.1
  have hb := C.1.2.1
  have hS : va_S (xk_A ads s.heap.size) s.heap s.heap [] := va_S.rf
  have hl : lv_has ls 7 [(0, .ref (ad 6)), (1, .int x0), (2, .int x1)] := hl
  refine lv_aload_n hx hb dd_Types_alike_0 rfl (lv_at hl 0 rfl) ?_
  refine gf_h_Types_6_kind C hP dd_Types_alike_1 ?_
  refine lv_iload_n hx hb dd_Types_alike_4 rfl (lv_at hl 1 rfl) ?_
  obtain ⟨hi, h⟩ := xp_g h
  refine al_h_7 C hP hi dd_Types_alike_5 ?_
  refine lv_aload_n hx hb dd_Types_alike_6 rfl (lv_at hl 0 rfl) ?_
  refine gf_h_Types_6_kind C hP dd_Types_alike_7 ?_
  refine lv_iload_n hx hb dd_Types_alike_10 rfl (lv_at hl 2 rfl) ?_
  obtain ⟨hi, h⟩ := xp_g h
  refine al_h_7 C hP hi dd_Types_alike_11 ?_
  refine lv_icmp_ne (tgt := 45) hx hb dd_Types_alike_12 (by decide) (fun hc => ?_) (fun hc => ?_)
  · have h := xp_f hc h
    refine lv_iconst (v := 0) hx hb dd_Types_alike_45 (by decide) ?_
    obtain ⟨rfl, rfl⟩ := xp_r h
    exact xr_zret C hP hS (by decide) dd_Types_alike_46
  · have h := xp_t hc h
    refine lv_aload_n hx hb dd_Types_alike_15 rfl (lv_at hl 0 rfl) ?_
    refine gf_h_Types_6_members C hP dd_Types_alike_16 ?_
    refine lv_iload_n hx hb dd_Types_alike_19 rfl (lv_at hl 1 rfl) ?_
    obtain ⟨hi, h⟩ := xp_g h
    refine al_h_8 C hP hi dd_Types_alike_20 ?_
    refine lv_aload_n hx hb dd_Types_alike_21 rfl (lv_at hl 0 rfl) ?_
    refine gf_h_Types_6_members C hP dd_Types_alike_22 ?_
    refine lv_iload_n hx hb dd_Types_alike_25 rfl (lv_at hl 2 rfl) ?_
    obtain ⟨hi, h⟩ := xp_g h
    refine al_h_8 C hP hi dd_Types_alike_26 ?_
    refine lv_icmp_ne (tgt := 45) hx hb dd_Types_alike_27 (by decide) (fun hc => ?_) (fun hc => ?_)
    · have h := xp_f hc h
      refine lv_iconst (v := 0) hx hb dd_Types_alike_45 (by decide) ?_
      obtain ⟨rfl, rfl⟩ := xp_r h
      exact xr_zret C hP hS (by decide) dd_Types_alike_46
    · have h := xp_t hc h
      refine lv_aload_n hx hb dd_Types_alike_30 rfl (lv_at hl 0 rfl) ?_
      refine gf_h_Types_6_results C hP dd_Types_alike_31 ?_
      refine lv_iload_n hx hb dd_Types_alike_34 rfl (lv_at hl 1 rfl) ?_
      obtain ⟨hi, h⟩ := xp_g h
      refine al_h_9 C hP hi dd_Types_alike_35 ?_
      refine lv_aload_n hx hb dd_Types_alike_36 rfl (lv_at hl 0 rfl) ?_
      refine gf_h_Types_6_results C hP dd_Types_alike_37 ?_
      refine lv_iload_n hx hb dd_Types_alike_40 rfl (lv_at hl 2 rfl) ?_
      obtain ⟨hi, h⟩ := xp_g h
      refine al_h_9 C hP hi dd_Types_alike_41 ?_
      refine lv_icmp_eq (tgt := 47) hx hb dd_Types_alike_42 (by decide) (fun hc => ?_) (fun hc => ?_)
      · have h := xp_t hc h
        refine lv_bipush (v := 34) hx hb dd_Types_alike_47 (by decide) ?_
        refine lv_iload_n hx hb dd_Types_alike_49 rfl (lv_at hl 1 rfl) ?_
        refine lv_imul hx hb dd_Types_alike_50 ?_
        obtain ⟨a1, ea1, h⟩ := xp_let h
        refine xr_nami ea1 ?_
        refine lv_istore_n (lv' := [(3, .int a1), (0, .ref (ad 6)), (1, .int x0), (2, .int x1)]) hx hb dd_Types_alike_51 rfl hl (by decide) rfl (fun ls hl => ?_)
        refine lv_bipush (v := 34) hx hb dd_Types_alike_52 (by decide) ?_
        refine lv_iload_n hx hb dd_Types_alike_54 rfl (lv_at hl 3 rfl) ?_
        refine lv_imul hx hb dd_Types_alike_55 ?_
        obtain ⟨a2, ea2, h⟩ := xp_let h
        refine xr_nami ea2 ?_
        refine lv_istore (lv' := [(4, .int a2), (3, .int a1), (0, .ref (ad 6)), (1, .int x0), (2, .int x1)]) hx hb dd_Types_alike_56 hl (by decide) rfl (fun ls hl => ?_)
        refine lv_aload_n hx hb dd_Types_alike_58 rfl (lv_at hl 2 rfl) ?_
        refine gf_h_Types_6_kind C hP dd_Types_alike_59 ?_
        refine lv_iload_n hx hb dd_Types_alike_62 rfl (lv_at hl 3 rfl) ?_
        obtain ⟨hi, h⟩ := xp_g h
        refine al_h_7 C hP hi dd_Types_alike_63 ?_
        refine lv_bipush (v := 96) hx hb dd_Types_alike_64 (by decide) ?_
        refine lv_icmp_ne (tgt := 78) hx hb dd_Types_alike_66 (by decide) (fun hc => ?_) (fun hc => ?_)
        · have h := xp_f hc h
          refine lv_aload_n hx hb dd_Types_alike_78 rfl (lv_at hl 2 rfl) ?_
          refine gf_h_Types_6_members C hP dd_Types_alike_79 ?_
          refine lv_iload_n hx hb dd_Types_alike_82 rfl (lv_at hl 3 rfl) ?_
          obtain ⟨hi, h⟩ := xp_g h
          refine al_h_8 C hP hi dd_Types_alike_83 ?_
          exact wj_Types_alike_84 htr C hne h hP hS (lv_sub hl [2, 3, 4, 1, 0] rfl)
        · have h := xp_t hc h
          refine lv_aload_n hx hb dd_Types_alike_69 rfl (lv_at hl 2 rfl) ?_
          refine gf_h_Types_6_results C hP dd_Types_alike_70 ?_
          refine lv_iload_n hx hb dd_Types_alike_73 rfl (lv_at hl 3 rfl) ?_
          obtain ⟨hi, h⟩ := xp_g h
          refine al_h_9 C hP hi dd_Types_alike_74 ?_
          refine lv_goto (tgt := 84) hx hb dd_Types_alike_75 (by decide) ?_
          exact wj_Types_alike_84 htr C hne h hP hS (lv_sub hl [2, 3, 4, 1, 0] rfl)
      · have h := xp_f hc h
        refine lv_iconst (v := 0) hx hb dd_Types_alike_45 (by decide) ?_
        obtain ⟨rfl, rfl⟩ := xp_r h
        exact xr_zret C hP hS (by decide) dd_Types_alike_46
abbrev rm_Types_group : Room := { frames := 5, cells := 1, slots := 6, locals := 92 }
noncomputable def jb_Types_group_59 (fu : Nat) (k2 : Int32 → xk_St → Option (Unit × xk_St)) (b1 : Int32) (u : xk_St) : Option (Unit × xk_St) :=
  (xs_let (b1 + (1 : Int32)) fun a2 => k2 a2 u)
noncomputable def jb_Types_group_53 (fu : Nat) (k2 : Int32 → xk_St → Option (Unit × xk_St)) (k19 : Int32 → Int32 → xk_St → Option (Unit × xk_St)) (b1 : Int32) (b2 : Int32) (u : xk_St) : Option (Unit × xk_St) :=
  (xs_let (b2 + (1 : Int32)) fun a3 => k19 b1 a3 u)
noncomputable def jb_Types_group_19 (fu : Nat) (k2 : Int32 → xk_St → Option (Unit × xk_St)) : Nat → Int32 → Int32 → xk_St → Option (Unit × xk_St)
  | 0 => fun _ _ _ => none
  | n + 1 => fun b1 b2 u =>
    xs_let (jb_Types_group_19 fu k2 n) fun k19 =>
    if b1 ≤ b2 then (jb_Types_group_59 fu k2 b1 u) else ((if b2 < 0 ∨ 65 ≤ b2.toNatClampNeg then none else if (u.2.2.1 5 b2.toNatClampNeg) = b2 then ((xs_seq (fm_Types_alike fu b1 b2 u) fun a4 u5 => if a4 = (0 : Int32) then (jb_Types_group_53 fu k2 k19 b1 b2 u5) else ((if b1 < 0 ∨ 65 ≤ b1.toNatClampNeg then none else xs_let (xs_A u5 5 b1.toNatClampNeg b2) fun u6 => jb_Types_group_59 fu k2 b1 u6)))) else (jb_Types_group_53 fu k2 k19 b1 b2 u)))
noncomputable def jb_Types_group_2 (fu : Nat) : Nat → Int32 → xk_St → Option (Unit × xk_St)
  | 0 => fun _ _ => none
  | n + 1 => fun b1 u =>
    xs_let (jb_Types_group_2 fu  n) fun k2 =>
    if (u.1 7) ≤ b1 then (some ((()), u)) else ((if b1 < 0 ∨ 65 ≤ b1.toNatClampNeg then none else xs_let (xs_A u 5 b1.toNatClampNeg b1) fun u1 => jb_Types_group_19 fu k2 fu b1 (0 : Int32) u1))
noncomputable def fm_Types_group (fu : Nat) (u : xk_St) : Option (Unit × xk_St) :=
  jb_Types_group_2 fu fu (0 : Int32) u
set_option maxHeartbeats 4000000 in
set_option maxRecDepth 100000 in
theorem wj_Types_group_59 {p : Program} {l : Launch} {e : Env} {s : State} {m : MethodId} {args : Array Value} {below : List Frame} {meth : Method} {c : Code} {D : va_G} {ad : Nat → Nat} {ca : Nat → ClassId} {ads : List Nat} {fu : Nat} (htr : l.stackTraces = false) (C : xk_C D kx_cl (kx_ty ca) (kw_h ad ca) ads "ModuleHouse$Types" prog_11_method_18_code 3 none p e s m args meth c) (hne : c.exceptionTable.isEmpty = true) {u' : xk_St} {r : Unit} {k2 : Int32 → xk_St → Option (Unit × xk_St)} (hk2 : ∀ (c0 : Int32) (u : xk_St) (H : Heap) (locs : List Loc) (ls : Array Slot), k2 c0 u = some (r, u') → va_P D kx_cl (kw_h ad ca u) H → va_S (xk_A ads s.heap.size) s.heap H locs → lv_has ls 3 [(0, .ref (ad 6)), (1, .int c0)] → W p l e rm_Types_group s m args below meth c H locs 0 0 (xk_MQ below (xk_Qc D kx_cl (kw_h ad ca) ads (xo_v (.inl r)) u') args s (xk_A ads s.heap.size)) (F0 m 2 ls [])) {b1 : Int32} {u : xk_St} {H : Heap} {locs : List Loc} {ls : Array Slot} (h : jb_Types_group_59 fu k2 b1 u = some (r, u')) (hP : va_P D kx_cl (kw_h ad ca u) H) (hS : va_S (xk_A ads s.heap.size) s.heap H locs) (hl : lv_has ls 3 [(0, .ref (ad 6)), (1, .int b1)]) : W p l e rm_Types_group s m args below meth c H locs 0 0 (xk_MQ below (xk_Qc D kx_cl (kw_h ad ca) ads (xo_v (.inl r)) u') args s (xk_A ads s.heap.size)) (F0 m 59 ls []) := by
  have hx := C.1.1
  have hb := C.1.2.1
  have hok := C.2.2.1
  unfold jb_Types_group_59 at h
  obtain ⟨a2, ea2, h⟩ := xp_let h
  refine lv_iinc (v := a2) (lv' := [(1, .int a2), (0, .ref (ad 6))]) hx hb dd_Types_group_59 hl (k := 1) rfl (by rw [ea2]; first | rfl | decide) (by decide) rfl (fun ls hl => ?_)
  refine lv_goto (tgt := 2) hx hb dd_Types_group_62 (by decide) ?_
  exact hk2 a2 u _ _ _ h hP hS (lv_sub hl [1, 0] rfl)
set_option maxHeartbeats 4000000 in
set_option maxRecDepth 100000 in
theorem wj_Types_group_53 {p : Program} {l : Launch} {e : Env} {s : State} {m : MethodId} {args : Array Value} {below : List Frame} {meth : Method} {c : Code} {D : va_G} {ad : Nat → Nat} {ca : Nat → ClassId} {ads : List Nat} {fu : Nat} (htr : l.stackTraces = false) (C : xk_C D kx_cl (kx_ty ca) (kw_h ad ca) ads "ModuleHouse$Types" prog_11_method_18_code 3 none p e s m args meth c) (hne : c.exceptionTable.isEmpty = true) {u' : xk_St} {r : Unit} {k2 : Int32 → xk_St → Option (Unit × xk_St)} {k19 : Int32 → Int32 → xk_St → Option (Unit × xk_St)} (hk2 : ∀ (c0 : Int32) (u : xk_St) (H : Heap) (locs : List Loc) (ls : Array Slot), k2 c0 u = some (r, u') → va_P D kx_cl (kw_h ad ca u) H → va_S (xk_A ads s.heap.size) s.heap H locs → lv_has ls 3 [(0, .ref (ad 6)), (1, .int c0)] → W p l e rm_Types_group s m args below meth c H locs 0 0 (xk_MQ below (xk_Qc D kx_cl (kw_h ad ca) ads (xo_v (.inl r)) u') args s (xk_A ads s.heap.size)) (F0 m 2 ls [])) (hk19 : ∀ (c0 : Int32) (c1 : Int32) (u : xk_St) (H : Heap) (locs : List Loc) (ls : Array Slot), k19 c0 c1 u = some (r, u') → va_P D kx_cl (kw_h ad ca u) H → va_S (xk_A ads s.heap.size) s.heap H locs → lv_has ls 3 [(0, .ref (ad 6)), (1, .int c0), (2, .int c1)] → W p l e rm_Types_group s m args below meth c H locs 0 0 (xk_MQ below (xk_Qc D kx_cl (kw_h ad ca) ads (xo_v (.inl r)) u') args s (xk_A ads s.heap.size)) (F0 m 19 ls [])) {b1 : Int32} {b2 : Int32} {u : xk_St} {H : Heap} {locs : List Loc} {ls : Array Slot} (h : jb_Types_group_53 fu k2 k19 b1 b2 u = some (r, u')) (hP : va_P D kx_cl (kw_h ad ca u) H) (hS : va_S (xk_A ads s.heap.size) s.heap H locs) (hl : lv_has ls 3 [(0, .ref (ad 6)), (1, .int b1), (2, .int b2)]) : W p l e rm_Types_group s m args below meth c H locs 0 0 (xk_MQ below (xk_Qc D kx_cl (kw_h ad ca) ads (xo_v (.inl r)) u') args s (xk_A ads s.heap.size)) (F0 m 53 ls []) := by
  have hx := C.1.1
  have hb := C.1.2.1
  have hok := C.2.2.1
  unfold jb_Types_group_53 at h
  obtain ⟨a3, ea3, h⟩ := xp_let h
  refine lv_iinc (v := a3) (lv' := [(2, .int a3), (0, .ref (ad 6)), (1, .int b1)]) hx hb dd_Types_group_53 hl (k := 2) rfl (by rw [ea3]; first | rfl | decide) (by decide) rfl (fun ls hl => ?_)
  refine lv_goto (tgt := 19) hx hb dd_Types_group_56 (by decide) ?_
  exact hk19 b1 a3 u _ _ _ h hP hS (lv_sub hl [1, 2, 0] rfl)
set_option maxHeartbeats 4000000 in
set_option maxRecDepth 100000 in
theorem wj_Types_group_19 {p : Program} {l : Launch} {e : Env} {s : State} {m : MethodId} {args : Array Value} {below : List Frame} {meth : Method} {c : Code} {D : va_G} {ad : Nat → Nat} {ca : Nat → ClassId} {ads : List Nat} {fu : Nat} (htr : l.stackTraces = false) (C : xk_C D kx_cl (kx_ty ca) (kw_h ad ca) ads "ModuleHouse$Types" prog_11_method_18_code 3 none p e s m args meth c) (hne : c.exceptionTable.isEmpty = true) {u' : xk_St} {r : Unit} {k2 : Int32 → xk_St → Option (Unit × xk_St)} (hk2 : ∀ (c0 : Int32) (u : xk_St) (H : Heap) (locs : List Loc) (ls : Array Slot), k2 c0 u = some (r, u') → va_P D kx_cl (kw_h ad ca u) H → va_S (xk_A ads s.heap.size) s.heap H locs → lv_has ls 3 [(0, .ref (ad 6)), (1, .int c0)] → W p l e rm_Types_group s m args below meth c H locs 0 0 (xk_MQ below (xk_Qc D kx_cl (kw_h ad ca) ads (xo_v (.inl r)) u') args s (xk_A ads s.heap.size)) (F0 m 2 ls [])) : ∀ {n : Nat} {b1 : Int32} {b2 : Int32} {u : xk_St} {H : Heap} {locs : List Loc} {ls : Array Slot} (h : jb_Types_group_19 fu k2 n b1 b2 u = some (r, u')) (hP : va_P D kx_cl (kw_h ad ca u) H) (hS : va_S (xk_A ads s.heap.size) s.heap H locs) (hl : lv_has ls 3 [(0, .ref (ad 6)), (1, .int b1), (2, .int b2)]), W p l e rm_Types_group s m args below meth c H locs 0 0 (xk_MQ below (xk_Qc D kx_cl (kw_h ad ca) ads (xo_v (.inl r)) u') args s (xk_A ads s.heap.size)) (F0 m 19 ls []) := by
  intro n
  have hx := C.1.1
  have hb := C.1.2.1
  have hok := C.2.2.1
  induction n with
  | zero =>
    intro _ _ u H locs ls h
    have h : none = some (r, u') := h
    cases h
  | succ n ih =>
    intro b1 b2 u H locs ls h hP hS hl
    unfold jb_Types_group_19 at h
    obtain ⟨k19, ek19, h⟩ := xp_let h
    have hk19 : ∀ (c0 : Int32) (c1 : Int32) (u : xk_St) (H : Heap) (locs : List Loc) (ls : Array Slot), k19 c0 c1 u = some (r, u') → va_P D kx_cl (kw_h ad ca u) H → va_S (xk_A ads s.heap.size) s.heap H locs → lv_has ls 3 [(0, .ref (ad 6)), (1, .int c0), (2, .int c1)] → W p l e rm_Types_group s m args below meth c H locs 0 0 (xk_MQ below (xk_Qc D kx_cl (kw_h ad ca) ads (xo_v (.inl r)) u') args s (xk_A ads s.heap.size)) (F0 m 19 ls []) := by
      intro c0 c1 u H locs ls h hP hS hl
      subst ek19
      exact ih h hP hS hl
    clear ih ek19
    refine lv_iload_n hx hb dd_Types_group_19 rfl (lv_at hl 2 rfl) ?_
    refine lv_iload_n hx hb dd_Types_group_20 rfl (lv_at hl 1 rfl) ?_
    refine lv_icmp_ge (tgt := 59) hx hb dd_Types_group_21 (by decide) (fun hc => ?_) (fun hc => ?_)
    · have h := xp_t hc h
      exact wj_Types_group_59 htr C hne hk2 h hP hS (lv_sub hl [0, 1] rfl)
    · have h := xp_f hc h
      refine lv_aload_n hx hb dd_Types_group_24 rfl (lv_at hl 0 rfl) ?_
      refine gf_h_Types_6_like C hP dd_Types_group_25 ?_
      refine lv_iload_n hx hb dd_Types_group_28 rfl (lv_at hl 2 rfl) ?_
      obtain ⟨hi, h⟩ := xp_g h
      refine al_h_10 C hP hi dd_Types_group_29 ?_
      refine lv_iload_n hx hb dd_Types_group_30 rfl (lv_at hl 2 rfl) ?_
      refine lv_icmp_ne (tgt := 53) hx hb dd_Types_group_31 (by decide) (fun hc => ?_) (fun hc => ?_)
      · have h := xp_f hc h
        exact wj_Types_group_53 htr C hne hk2 hk19 h hP hS (lv_sub hl [0, 1, 2] rfl)
      · have h := xp_t hc h
        refine lv_aload_n hx hb dd_Types_group_34 rfl (lv_at hl 0 rfl) ?_
        refine lv_iload_n hx hb dd_Types_group_35 rfl (lv_at hl 1 rfl) ?_
        refine lv_iload_n hx hb dd_Types_group_36 rfl (lv_at hl 2 rfl) ?_
        obtain ⟨a4, u5, hq, h⟩ := xp_seq h
        refine xk_goesI (xr_V (As := [.int b1, .int b2]) (rest := []) C hP hS (ct_Types_alike htr hok hq) kq_Types_57 6 9 rfl rfl ⟨rfl, rfl, Nat.le_of_ble_eq_true rfl, Nat.le_of_ble_eq_true rfl⟩ ⟨Nat.le_of_ble_eq_true rfl, Nat.le_of_ble_eq_true rfl⟩ hl.1 rfl rfl (Nat.le_of_ble_eq_true rfl) dd_Types_group_37) hS (fun H locs hP hS => ?_)
        clear hq
        refine lv_if_eq (tgt := 53) hx hb dd_Types_group_40 (by decide) (fun hc => ?_) (fun hc => ?_)
        · have h := xp_t hc h
          exact wj_Types_group_53 htr C hne hk2 hk19 h hP hS (lv_sub hl [0, 1, 2] rfl)
        · have h := xp_f hc h
          refine lv_aload_n hx hb dd_Types_group_43 rfl (lv_at hl 0 rfl) ?_
          refine gf_h_Types_6_like C hP dd_Types_group_44 ?_
          refine lv_iload_n hx hb dd_Types_group_47 rfl (lv_at hl 1 rfl) ?_
          refine lv_iload_n hx hb dd_Types_group_48 rfl (lv_at hl 2 rfl) ?_
          obtain ⟨hi, h⟩ := xp_g h
          refine as_h_10 C hP hS hi dd_Types_group_49 (fun H locs hP hS => ?_)
          obtain ⟨u6, eu6, h⟩ := xp_let h
          rw [← eu6] at hP
          refine lv_goto (tgt := 59) hx hb dd_Types_group_50 (by decide) ?_
          exact wj_Types_group_59 htr C hne hk2 h hP hS (lv_sub hl [0, 1] rfl)
set_option maxHeartbeats 4000000 in
set_option maxRecDepth 100000 in
theorem wj_Types_group_2 {p : Program} {l : Launch} {e : Env} {s : State} {m : MethodId} {args : Array Value} {below : List Frame} {meth : Method} {c : Code} {D : va_G} {ad : Nat → Nat} {ca : Nat → ClassId} {ads : List Nat} {fu : Nat} (htr : l.stackTraces = false) (C : xk_C D kx_cl (kx_ty ca) (kw_h ad ca) ads "ModuleHouse$Types" prog_11_method_18_code 3 none p e s m args meth c) (hne : c.exceptionTable.isEmpty = true) {u' : xk_St} {r : Unit} : ∀ {n : Nat} {b1 : Int32} {u : xk_St} {H : Heap} {locs : List Loc} {ls : Array Slot} (h : jb_Types_group_2 fu  n b1 u = some (r, u')) (hP : va_P D kx_cl (kw_h ad ca u) H) (hS : va_S (xk_A ads s.heap.size) s.heap H locs) (hl : lv_has ls 3 [(0, .ref (ad 6)), (1, .int b1)]), W p l e rm_Types_group s m args below meth c H locs 0 0 (xk_MQ below (xk_Qc D kx_cl (kw_h ad ca) ads (xo_v (.inl r)) u') args s (xk_A ads s.heap.size)) (F0 m 2 ls []) := by
  intro n
  have hx := C.1.1
  have hb := C.1.2.1
  have hok := C.2.2.1
  induction n with
  | zero =>
    intro _ u H locs ls h
    have h : none = some (r, u') := h
    cases h
  | succ n ih =>
    intro b1 u H locs ls h hP hS hl
    unfold jb_Types_group_2 at h
    obtain ⟨k2, ek2, h⟩ := xp_let h
    have hk2 : ∀ (c0 : Int32) (u : xk_St) (H : Heap) (locs : List Loc) (ls : Array Slot), k2 c0 u = some (r, u') → va_P D kx_cl (kw_h ad ca u) H → va_S (xk_A ads s.heap.size) s.heap H locs → lv_has ls 3 [(0, .ref (ad 6)), (1, .int c0)] → W p l e rm_Types_group s m args below meth c H locs 0 0 (xk_MQ below (xk_Qc D kx_cl (kw_h ad ca) ads (xo_v (.inl r)) u') args s (xk_A ads s.heap.size)) (F0 m 2 ls []) := by
      intro c0 u H locs ls h hP hS hl
      subst ek2
      exact ih h hP hS hl
    clear ih ek2
    refine lv_iload_n hx hb dd_Types_group_2 rfl (lv_at hl 1 rfl) ?_
    refine lv_aload_n hx hb dd_Types_group_3 rfl (lv_at hl 0 rfl) ?_
    refine gf_h_Types_6_count C hP dd_Types_group_4 ?_
    refine lv_icmp_ge (tgt := 65) hx hb dd_Types_group_7 (by decide) (fun hc => ?_) (fun hc => ?_)
    · have h := xp_t hc h
      obtain ⟨rfl, rfl⟩ := xp_r h
      exact xr_vret C hP hS dd_Types_group_65
    · have h := xp_f hc h
      refine lv_aload_n hx hb dd_Types_group_10 rfl (lv_at hl 0 rfl) ?_
      refine gf_h_Types_6_like C hP dd_Types_group_11 ?_
      refine lv_iload_n hx hb dd_Types_group_14 rfl (lv_at hl 1 rfl) ?_
      refine lv_iload_n hx hb dd_Types_group_15 rfl (lv_at hl 1 rfl) ?_
      obtain ⟨hi, h⟩ := xp_g h
      refine as_h_10 C hP hS hi dd_Types_group_16 (fun H locs hP hS => ?_)
      obtain ⟨u1, eu1, h⟩ := xp_let h
      rw [← eu1] at hP
      refine lv_iconst (v := 0) hx hb dd_Types_group_17 (by decide) ?_
      refine lv_istore_n (lv' := [(2, .int (0 : Int32)), (0, .ref (ad 6)), (1, .int b1)]) hx hb dd_Types_group_18 rfl hl (by decide) rfl (fun ls hl => ?_)
      exact wj_Types_group_19 htr C hne hk2 h hP hS (lv_sub hl [1, 2, 0] rfl)
set_option maxHeartbeats 4000000 in
set_option maxRecDepth 100000 in
theorem ct_Types_group {l : Launch} {D : va_G} {ad : Nat → Nat} {ca : Nat → ClassId} {ads : List Nat} (htr : l.stackTraces = false) (hok : xk_ok (kw_h ad ca) ads) {fu : Nat} {u u' : xk_St} {r : Unit} (h : fm_Types_group fu u = some (r, u')) :
    ∀ sz, xk_Met l ⟨"ModuleHouse$Types", "group", "()V"⟩ (Cond.code ⟨"ModuleHouse$Types", "group", "()V"⟩ prog_11_method_18_code 3 none :: xk_gd) rm_Types_group (xk_Pc D kx_cl (kx_ty ca) (kw_h ad ca) ads xk_F sz [.ref (ad 6)] u) (xk_Qc D kx_cl (kw_h ad ca) ads (xo_v (.inl r)) u') (xk_A ads sz) := by
  unfold fm_Types_group at h
  refine xk_con (by decide) htr hok (Nat.le_of_ble_eq_true rfl) (fun p e s m below meth c ls C hne hl hP => ?_)
  have hx := C.1.1
  have hb := C.1.2.1
  have hS : va_S (xk_A ads s.heap.size) s.heap s.heap [] := va_S.rf
  have hl : lv_has ls 3 [(0, .ref (ad 6))] := hl
  refine lv_iconst (v := 0) hx hb dd_Types_group_0 (by decide) ?_
  refine lv_istore_n (lv' := [(1, .int (0 : Int32)), (0, .ref (ad 6))]) hx hb dd_Types_group_1 rfl hl (by decide) rfl (fun ls hl => ?_)
  exact wj_Types_group_2 htr C hne h hP hS (lv_sub hl [1, 0] rfl)
abbrev rm_Types_outcome : Room := { frames := 1, cells := 1, slots := 6, locals := 0 }
noncomputable def fm_Types_outcome (x0 : Int32) (x1 : Int32) (u : xk_St) : Option (Int32 × xk_St) :=
  (if ((((34 : Int32) * x0) + (17 : Int32)) + x1) < 0 ∨ 2210 ≤ ((((34 : Int32) * x0) + (17 : Int32)) + x1).toNatClampNeg then none else some ((u.2.2.1 6 ((((34 : Int32) * x0) + (17 : Int32)) + x1).toNatClampNeg), u))
set_option maxHeartbeats 4000000 in
set_option maxRecDepth 100000 in
theorem ct_Types_outcome {l : Launch} {D : va_G} {ad : Nat → Nat} {ca : Nat → ClassId} {ads : List Nat} (htr : l.stackTraces = false) (hok : xk_ok (kw_h ad ca) ads) {x0 : Int32} {x1 : Int32} {u u' : xk_St} {r : Int32} (h : fm_Types_outcome x0 x1 u = some (r, u')) :
    ∀ sz, xk_Met l ⟨"ModuleHouse$Types", "outcome", "(II)I"⟩ (Cond.code ⟨"ModuleHouse$Types", "outcome", "(II)I"⟩ prog_11_method_11_code 3 (some .int) :: xk_gd) rm_Types_outcome (xk_Pc D kx_cl (kx_ty ca) (kw_h ad ca) ads xk_F sz [.ref (ad 6), .int x0, .int x1] u) (xk_Qc D kx_cl (kw_h ad ca) ads (xo_i (.inl r)) u') (xk_A ads sz) := by
  unfold fm_Types_outcome at h
  refine xk_con (by decide) htr hok (Nat.le_of_ble_eq_true rfl) (fun p e s m below meth c ls C hne hl hP => ?_)
  have hx := C.1.1
  have hb := C.1.2.1
  have hS : va_S (xk_A ads s.heap.size) s.heap s.heap [] := va_S.rf
  have hl : lv_has ls 3 [(0, .ref (ad 6)), (1, .int x0), (2, .int x1)] := hl
  refine lv_aload_n hx hb dd_Types_outcome_0 rfl (lv_at hl 0 rfl) ?_
  refine gf_h_Types_6_part C hP dd_Types_outcome_1 ?_
  refine lv_bipush (v := 34) hx hb dd_Types_outcome_4 (by decide) ?_
  refine lv_iload_n hx hb dd_Types_outcome_6 rfl (lv_at hl 1 rfl) ?_
  refine lv_imul hx hb dd_Types_outcome_7 ?_
  refine lv_bipush (v := 17) hx hb dd_Types_outcome_8 (by decide) ?_
  refine lv_iadd hx hb dd_Types_outcome_10 ?_
  refine lv_iload_n hx hb dd_Types_outcome_11 rfl (lv_at hl 2 rfl) ?_
  refine lv_iadd hx hb dd_Types_outcome_12 ?_
  obtain ⟨hi, h⟩ := xp_g h
  refine al_h_11 C hP hi dd_Types_outcome_13 ?_
  obtain ⟨rfl, rfl⟩ := xp_r h
  exact xr_iret C hP hS dd_Types_outcome_14
abbrev rm_Types_knowsTarget : Room := { frames := 1, cells := 1, slots := 6, locals := 0 }
noncomputable def jb_Types_knowsTarget_28 (u : xk_St) : Option (Int32 × xk_St) :=
  some ((1 : Int32), u)
noncomputable def fm_Types_knowsTarget (x0 : Int32) (u : xk_St) : Option (Int32 × xk_St) :=
  if x0 < (3 : Int32) then (jb_Types_knowsTarget_28 u) else (if (u.1 7) ≤ (x0 - (3 : Int32)) then (some ((0 : Int32), u)) else ((if (x0 - (3 : Int32)) < 0 ∨ 65 ≤ (x0 - (3 : Int32)).toNatClampNeg then none else if (u.2.2.1 2 (x0 - (3 : Int32)).toNatClampNeg) = (96 : Int32) then (some ((0 : Int32), u)) else (jb_Types_knowsTarget_28 u))))
set_option maxHeartbeats 4000000 in
set_option maxRecDepth 100000 in
theorem wj_Types_knowsTarget_28 {p : Program} {l : Launch} {e : Env} {s : State} {m : MethodId} {args : Array Value} {below : List Frame} {meth : Method} {c : Code} {D : va_G} {ad : Nat → Nat} {ca : Nat → ClassId} {ads : List Nat} (htr : l.stackTraces = false) (C : xk_C D kx_cl (kx_ty ca) (kw_h ad ca) ads "ModuleHouse$Types" prog_11_method_16_code 2 (some .boolean) p e s m args meth c) (hne : c.exceptionTable.isEmpty = true) {u' : xk_St} {r : Int32} {u : xk_St} {H : Heap} {locs : List Loc} {ls : Array Slot} (h : jb_Types_knowsTarget_28   u = some (r, u')) (hP : va_P D kx_cl (kw_h ad ca u) H) (hS : va_S (xk_A ads s.heap.size) s.heap H locs) (hl : lv_has ls 2 []) : W p l e rm_Types_knowsTarget s m args below meth c H locs 0 0 (xk_MQ below (xk_Qc D kx_cl (kw_h ad ca) ads (xo_i (.inl r)) u') args s (xk_A ads s.heap.size)) (F0 m 28 ls []) := by
  have hx := C.1.1
  have hb := C.1.2.1
  have hok := C.2.2.1
  unfold jb_Types_knowsTarget_28 at h
  refine lv_iconst (v := 1) hx hb dd_Types_knowsTarget_28 (by decide) ?_
  refine lv_goto (tgt := 33) hx hb dd_Types_knowsTarget_29 (by decide) ?_
  obtain ⟨rfl, rfl⟩ := xp_r h
  exact xr_zret C hP hS (by decide) dd_Types_knowsTarget_33
set_option maxHeartbeats 4000000 in
set_option maxRecDepth 100000 in
theorem ct_Types_knowsTarget {l : Launch} {D : va_G} {ad : Nat → Nat} {ca : Nat → ClassId} {ads : List Nat} (htr : l.stackTraces = false) (hok : xk_ok (kw_h ad ca) ads) {x0 : Int32} {u u' : xk_St} {r : Int32} (h : fm_Types_knowsTarget x0 u = some (r, u')) :
    ∀ sz, xk_Met l ⟨"ModuleHouse$Types", "knowsTarget", "(I)Z"⟩ (Cond.code ⟨"ModuleHouse$Types", "knowsTarget", "(I)Z"⟩ prog_11_method_16_code 2 (some .boolean) :: xk_gd) rm_Types_knowsTarget (xk_Pc D kx_cl (kx_ty ca) (kw_h ad ca) ads xk_F sz [.ref (ad 6), .int x0] u) (xk_Qc D kx_cl (kw_h ad ca) ads (xo_i (.inl r)) u') (xk_A ads sz) := by
  unfold fm_Types_knowsTarget at h
  refine xk_con (by decide) htr hok (Nat.le_of_ble_eq_true rfl) (fun p e s m below meth c ls C hne hl hP => ?_)
  have hx := C.1.1
  have hb := C.1.2.1
  have hS : va_S (xk_A ads s.heap.size) s.heap s.heap [] := va_S.rf
  have hl : lv_has ls 2 [(0, .ref (ad 6)), (1, .int x0)] := hl
  refine lv_iload_n hx hb dd_Types_knowsTarget_0 rfl (lv_at hl 1 rfl) ?_
  refine lv_iconst (v := 3) hx hb dd_Types_knowsTarget_1 (by decide) ?_
  refine lv_icmp_lt (tgt := 28) hx hb dd_Types_knowsTarget_2 (by decide) (fun hc => ?_) (fun hc => ?_)
  · have h := xp_t hc h
    exact wj_Types_knowsTarget_28 htr C hne h hP hS (lv_sub hl [] rfl)
  · have h := xp_f hc h
    refine lv_iload_n hx hb dd_Types_knowsTarget_5 rfl (lv_at hl 1 rfl) ?_
    refine lv_iconst (v := 3) hx hb dd_Types_knowsTarget_6 (by decide) ?_
    refine lv_isub hx hb dd_Types_knowsTarget_7 ?_
    refine lv_aload_n hx hb dd_Types_knowsTarget_8 rfl (lv_at hl 0 rfl) ?_
    refine gf_h_Types_6_count C hP dd_Types_knowsTarget_9 ?_
    refine lv_icmp_ge (tgt := 32) hx hb dd_Types_knowsTarget_12 (by decide) (fun hc => ?_) (fun hc => ?_)
    · have h := xp_t hc h
      refine lv_iconst (v := 0) hx hb dd_Types_knowsTarget_32 (by decide) ?_
      obtain ⟨rfl, rfl⟩ := xp_r h
      exact xr_zret C hP hS (by decide) dd_Types_knowsTarget_33
    · have h := xp_f hc h
      refine lv_aload_n hx hb dd_Types_knowsTarget_15 rfl (lv_at hl 0 rfl) ?_
      refine gf_h_Types_6_kind C hP dd_Types_knowsTarget_16 ?_
      refine lv_iload_n hx hb dd_Types_knowsTarget_19 rfl (lv_at hl 1 rfl) ?_
      refine lv_iconst (v := 3) hx hb dd_Types_knowsTarget_20 (by decide) ?_
      refine lv_isub hx hb dd_Types_knowsTarget_21 ?_
      obtain ⟨hi, h⟩ := xp_g h
      refine al_h_7 C hP hi dd_Types_knowsTarget_22 ?_
      refine lv_bipush (v := 96) hx hb dd_Types_knowsTarget_23 (by decide) ?_
      refine lv_icmp_eq (tgt := 32) hx hb dd_Types_knowsTarget_25 (by decide) (fun hc => ?_) (fun hc => ?_)
      · have h := xp_t hc h
        refine lv_iconst (v := 0) hx hb dd_Types_knowsTarget_32 (by decide) ?_
        obtain ⟨rfl, rfl⟩ := xp_r h
        exact xr_zret C hP hS (by decide) dd_Types_knowsTarget_33
      · have h := xp_f hc h
        exact wj_Types_knowsTarget_28 htr C hne h hP hS (lv_sub hl [] rfl)
abbrev rm_Types_knows : Room := { frames := 2, cells := 1, slots := 6, locals := 21 }
noncomputable def jb_Types_knows_18 (u : xk_St) : Option (Int32 × xk_St) :=
  some ((1 : Int32), u)
noncomputable def fm_Types_knows (x0 : Int32) (u : xk_St) : Option (Int32 × xk_St) :=
  (xs_seq (fm_Types_isReference x0 u) fun a1 u2 => if a1 = (0 : Int32) then (jb_Types_knows_18 u2) else ((xs_seq (fm_Types_target x0 u2) fun a3 u4 => xs_seq (fm_Types_knowsTarget a3 u4) fun a5 u6 => if a5 = (0 : Int32) then (some ((0 : Int32), u6)) else (jb_Types_knows_18 u6))))
set_option maxHeartbeats 4000000 in
set_option maxRecDepth 100000 in
theorem wj_Types_knows_18 {p : Program} {l : Launch} {e : Env} {s : State} {m : MethodId} {args : Array Value} {below : List Frame} {meth : Method} {c : Code} {D : va_G} {ad : Nat → Nat} {ca : Nat → ClassId} {ads : List Nat} (htr : l.stackTraces = false) (C : xk_C D kx_cl (kx_ty ca) (kw_h ad ca) ads "ModuleHouse$Types" prog_11_method_17_code 2 (some .boolean) p e s m args meth c) (hne : c.exceptionTable.isEmpty = true) {u' : xk_St} {r : Int32} {u : xk_St} {H : Heap} {locs : List Loc} {ls : Array Slot} (h : jb_Types_knows_18   u = some (r, u')) (hP : va_P D kx_cl (kw_h ad ca u) H) (hS : va_S (xk_A ads s.heap.size) s.heap H locs) (hl : lv_has ls 2 []) : W p l e rm_Types_knows s m args below meth c H locs 0 0 (xk_MQ below (xk_Qc D kx_cl (kw_h ad ca) ads (xo_i (.inl r)) u') args s (xk_A ads s.heap.size)) (F0 m 18 ls []) := by
  have hx := C.1.1
  have hb := C.1.2.1
  have hok := C.2.2.1
  unfold jb_Types_knows_18 at h
  refine lv_iconst (v := 1) hx hb dd_Types_knows_18 (by decide) ?_
  refine lv_goto (tgt := 23) hx hb dd_Types_knows_19 (by decide) ?_
  obtain ⟨rfl, rfl⟩ := xp_r h
  exact xr_zret C hP hS (by decide) dd_Types_knows_23
set_option maxHeartbeats 4000000 in
set_option maxRecDepth 100000 in
theorem ct_Types_knows {l : Launch} {D : va_G} {ad : Nat → Nat} {ca : Nat → ClassId} {ads : List Nat} (htr : l.stackTraces = false) (hok : xk_ok (kw_h ad ca) ads) {x0 : Int32} {u u' : xk_St} {r : Int32} (h : fm_Types_knows x0 u = some (r, u')) :
    ∀ sz, xk_Met l ⟨"ModuleHouse$Types", "knows", "(I)Z"⟩ (Cond.code ⟨"ModuleHouse$Types", "knows", "(I)Z"⟩ prog_11_method_17_code 2 (some .boolean) :: xk_gd) rm_Types_knows (xk_Pc D kx_cl (kx_ty ca) (kw_h ad ca) ads xk_F sz [.ref (ad 6), .int x0] u) (xk_Qc D kx_cl (kw_h ad ca) ads (xo_i (.inl r)) u') (xk_A ads sz) := by
  unfold fm_Types_knows at h
  refine xk_con (by decide) htr hok (Nat.le_of_ble_eq_true rfl) (fun p e s m below meth c ls C hne hl hP => ?_)
  have hx := C.1.1
  have hb := C.1.2.1
  have hS : va_S (xk_A ads s.heap.size) s.heap s.heap [] := va_S.rf
  have hl : lv_has ls 2 [(0, .ref (ad 6)), (1, .int x0)] := hl
  refine lv_iload_n hx hb dd_Types_knows_0 rfl (lv_at hl 1 rfl) ?_
  obtain ⟨a1, u2, hq, h⟩ := xp_seq h
  refine xk_goesI (xr_S (As := [.int x0]) (rest := []) C hP hS (ct_Types_isReference htr hok hq) kq_Types_27 ⟨rfl, rfl, Nat.le_of_ble_eq_true rfl, Nat.le_of_ble_eq_true rfl⟩ ⟨Nat.le_of_ble_eq_true rfl, Nat.le_of_ble_eq_true rfl⟩ hl.1 rfl rfl (Nat.le_of_ble_eq_true rfl) dd_Types_knows_1) hS (fun H locs hP hS => ?_)
  clear hq
  refine lv_if_eq (tgt := 18) hx hb dd_Types_knows_4 (by decide) (fun hc => ?_) (fun hc => ?_)
  · have h := xp_t hc h
    exact wj_Types_knows_18 htr C hne h hP hS (lv_sub hl [] rfl)
  · have h := xp_f hc h
    refine lv_aload_n hx hb dd_Types_knows_7 rfl (lv_at hl 0 rfl) ?_
    refine lv_iload_n hx hb dd_Types_knows_8 rfl (lv_at hl 1 rfl) ?_
    obtain ⟨a3, u4, hq, h⟩ := xp_seq h
    refine xk_goesI (xr_S (As := [.int x0]) (rest := [.ref (ad 6)]) C hP hS (ct_Types_target htr hok hq) kq_Types_50 ⟨rfl, rfl, Nat.le_of_ble_eq_true rfl, Nat.le_of_ble_eq_true rfl⟩ ⟨Nat.le_of_ble_eq_true rfl, Nat.le_of_ble_eq_true rfl⟩ hl.1 rfl rfl (Nat.le_of_ble_eq_true rfl) dd_Types_knows_9) hS (fun H locs hP hS => ?_)
    clear hq
    obtain ⟨a5, u6, hq, h⟩ := xp_seq h
    refine xk_goesI (xr_V (As := [.int a3]) (rest := []) C hP hS (ct_Types_knowsTarget htr hok hq) kq_Types_54 6 9 rfl rfl ⟨rfl, rfl, Nat.le_of_ble_eq_true rfl, Nat.le_of_ble_eq_true rfl⟩ ⟨Nat.le_of_ble_eq_true rfl, Nat.le_of_ble_eq_true rfl⟩ hl.1 rfl rfl (Nat.le_of_ble_eq_true rfl) dd_Types_knows_12) hS (fun H locs hP hS => ?_)
    clear hq
    refine lv_if_eq (tgt := 22) hx hb dd_Types_knows_15 (by decide) (fun hc => ?_) (fun hc => ?_)
    · have h := xp_t hc h
      refine lv_iconst (v := 0) hx hb dd_Types_knows_22 (by decide) ?_
      obtain ⟨rfl, rfl⟩ := xp_r h
      exact xr_zret C hP hS (by decide) dd_Types_knows_23
    · have h := xp_f hc h
      exact wj_Types_knows_18 htr C hne h hP hS (lv_sub hl [] rfl)
abbrev rm_Checker_needWithin : Room := { frames := 7, cells := 1, slots := 6, locals := 120 }
noncomputable def jb_Checker_needWithin_33 (s0 : Int32) (u : xk_St) : Option ((Unit ⊕ Nat) × xk_St) :=
  (xs_try (fm_Checker_need s0 u) fun _ u6 => some (.inl (()), u6))
noncomputable def jb_Checker_needWithin_28 (u : xk_St) : Option ((Unit ⊕ Nat) × xk_St) :=
  jb_Checker_needWithin_33 (1 : Int32) u
noncomputable def fm_Checker_needWithin (x0 : Int32) (x1 : Int32) (u : xk_St) : Option ((Unit ⊕ Nat) × xk_St) :=
  (xs_seq (fm_Types_knows x0 u) fun a1 u2 => xs_try (fm_Checker_need a1 u2) fun _ u3 => xs_seq (fm_Types_isReference x0 u3) fun a4 u5 => if a4 = (0 : Int32) then (jb_Checker_needWithin_28 u5) else ((xs_seq (fm_Types_target x0 u5) fun a7 u8 => if x1 < (a7 - (3 : Int32)) then (jb_Checker_needWithin_33 (0 : Int32) u8) else (jb_Checker_needWithin_28 u8))))
set_option maxHeartbeats 4000000 in
set_option maxRecDepth 100000 in
theorem wj_Checker_needWithin_33 {p : Program} {l : Launch} {e : Env} {s : State} {m : MethodId} {args : Array Value} {below : List Frame} {meth : Method} {c : Code} {D : va_G} {ad : Nat → Nat} {ca : Nat → ClassId} {ads : List Nat} (htr : l.stackTraces = false) (C : xk_C D kx_cl (kx_ty ca) (kw_h ad ca) ads "ModuleHouse$Checker" prog_2_method_5_code 3 none p e s m args meth c) (hne : c.exceptionTable.isEmpty = true) {u' : xk_St} {r : (Unit ⊕ Nat)} {s0 : Int32} {u : xk_St} {H : Heap} {locs : List Loc} {ls : Array Slot} (h : jb_Checker_needWithin_33  s0 u = some (r, u')) (hP : va_P D kx_cl (kw_h ad ca u) H) (hS : va_S (xk_A ads s.heap.size) s.heap H locs) (hl : lv_has ls 3 []) : W p l e rm_Checker_needWithin s m args below meth c H locs 0 0 (xk_MQ below (xk_Qc D kx_cl (kw_h ad ca) ads (xo_v r) u') args s (xk_A ads s.heap.size)) (F0 m 33 ls [.int s0]) := by
  have hx := C.1.1
  have hb := C.1.2.1
  have hok := C.2.2.1
  unfold jb_Checker_needWithin_33 at h
  rcases xp_try h with ⟨rx, u6, hq, h⟩ | ⟨kx, ux, hq, h⟩
  rotate_left
  · obtain ⟨rfl, rfl⟩ := xp_q h
    exact xk_up (xr_S (As := [.int s0]) (rest := []) C hP hS (ct_Checker_need htr hok hq) kq_Checker_60 ⟨rfl, rfl, Nat.le_of_ble_eq_true rfl, Nat.le_of_ble_eq_true rfl⟩ ⟨Nat.le_of_ble_eq_true rfl, Nat.le_of_ble_eq_true rfl⟩ hl.1 rfl rfl (Nat.le_of_ble_eq_true rfl) dd_Checker_needWithin_33) hS hne C.2.2.2.2.2.2.1
  refine xk_goesV (xr_S (As := [.int s0]) (rest := []) C hP hS (ct_Checker_need htr hok hq) kq_Checker_60 ⟨rfl, rfl, Nat.le_of_ble_eq_true rfl, Nat.le_of_ble_eq_true rfl⟩ ⟨Nat.le_of_ble_eq_true rfl, Nat.le_of_ble_eq_true rfl⟩ hl.1 rfl rfl (Nat.le_of_ble_eq_true rfl) dd_Checker_needWithin_33) hS (fun H locs hP hS => ?_)
  clear hq
  obtain ⟨rfl, rfl⟩ := xp_r h
  exact xr_vret C hP hS dd_Checker_needWithin_36
set_option maxHeartbeats 4000000 in
set_option maxRecDepth 100000 in
theorem wj_Checker_needWithin_28 {p : Program} {l : Launch} {e : Env} {s : State} {m : MethodId} {args : Array Value} {below : List Frame} {meth : Method} {c : Code} {D : va_G} {ad : Nat → Nat} {ca : Nat → ClassId} {ads : List Nat} (htr : l.stackTraces = false) (C : xk_C D kx_cl (kx_ty ca) (kw_h ad ca) ads "ModuleHouse$Checker" prog_2_method_5_code 3 none p e s m args meth c) (hne : c.exceptionTable.isEmpty = true) {u' : xk_St} {r : (Unit ⊕ Nat)} {u : xk_St} {H : Heap} {locs : List Loc} {ls : Array Slot} (h : jb_Checker_needWithin_28   u = some (r, u')) (hP : va_P D kx_cl (kw_h ad ca u) H) (hS : va_S (xk_A ads s.heap.size) s.heap H locs) (hl : lv_has ls 3 []) : W p l e rm_Checker_needWithin s m args below meth c H locs 0 0 (xk_MQ below (xk_Qc D kx_cl (kw_h ad ca) ads (xo_v r) u') args s (xk_A ads s.heap.size)) (F0 m 28 ls []) := by
  have hx := C.1.1
  have hb := C.1.2.1
  have hok := C.2.2.1
  unfold jb_Checker_needWithin_28 at h
  refine lv_iconst (v := 1) hx hb dd_Checker_needWithin_28 (by decide) ?_
  refine lv_goto (tgt := 33) hx hb dd_Checker_needWithin_29 (by decide) ?_
  exact wj_Checker_needWithin_33 htr C hne h hP hS (lv_sub hl [] rfl)
set_option maxHeartbeats 4000000 in
set_option maxRecDepth 100000 in
theorem ct_Checker_needWithin {l : Launch} {D : va_G} {ad : Nat → Nat} {ca : Nat → ClassId} {ads : List Nat} (htr : l.stackTraces = false) (hok : xk_ok (kw_h ad ca) ads) {x0 : Int32} {x1 : Int32} {u u' : xk_St} {r : (Unit ⊕ Nat)} (h : fm_Checker_needWithin x0 x1 u = some (r, u')) :
    ∀ sz, xk_Met l ⟨"ModuleHouse$Checker", "needWithin", "(II)V"⟩ (Cond.code ⟨"ModuleHouse$Checker", "needWithin", "(II)V"⟩ prog_2_method_5_code 3 none :: xk_gd) rm_Checker_needWithin (xk_Pc D kx_cl (kx_ty ca) (kw_h ad ca) ads xk_F sz [.ref (ad 55), .int x0, .int x1] u) (xk_Qc D kx_cl (kw_h ad ca) ads (xo_v r) u') (xk_A ads sz) := by
  unfold fm_Checker_needWithin at h
  refine xk_con (by decide) htr hok (Nat.le_of_ble_eq_true rfl) (fun p e s m below meth c ls C hne hl hP => ?_)
  have hx := C.1.1
  have hb := C.1.2.1
  have hS : va_S (xk_A ads s.heap.size) s.heap s.heap [] := va_S.rf
  have hl : lv_has ls 3 [(0, .ref (ad 55)), (1, .int x0), (2, .int x1)] := hl
  refine lv_aload_n hx hb dd_Checker_needWithin_0 rfl (lv_at hl 0 rfl) ?_
  refine gf_h_Checker_55_types C hP dd_Checker_needWithin_1 ?_
  refine lv_iload_n hx hb dd_Checker_needWithin_4 rfl (lv_at hl 1 rfl) ?_
  obtain ⟨a1, u2, hq, h⟩ := xp_seq h
  refine xk_goesI (xr_V (As := [.int x0]) (rest := []) C hP hS (ct_Types_knows htr hok hq) kq_Checker_121 6 9 rfl rfl ⟨rfl, rfl, Nat.le_of_ble_eq_true rfl, Nat.le_of_ble_eq_true rfl⟩ ⟨Nat.le_of_ble_eq_true rfl, Nat.le_of_ble_eq_true rfl⟩ hl.1 rfl rfl (Nat.le_of_ble_eq_true rfl) dd_Checker_needWithin_5) hS (fun H locs hP hS => ?_)
  clear hq
  rcases xp_try h with ⟨rx, u3, hq, h⟩ | ⟨kx, ux, hq, h⟩
  rotate_left
  · obtain ⟨rfl, rfl⟩ := xp_q h
    exact xk_up (xr_S (As := [.int a1]) (rest := []) C hP hS (ct_Checker_need htr hok hq) kq_Checker_60 ⟨rfl, rfl, Nat.le_of_ble_eq_true rfl, Nat.le_of_ble_eq_true rfl⟩ ⟨Nat.le_of_ble_eq_true rfl, Nat.le_of_ble_eq_true rfl⟩ hl.1 rfl rfl (Nat.le_of_ble_eq_true rfl) dd_Checker_needWithin_8) hS hne C.2.2.2.2.2.2.1
  refine xk_goesV (xr_S (As := [.int a1]) (rest := []) C hP hS (ct_Checker_need htr hok hq) kq_Checker_60 ⟨rfl, rfl, Nat.le_of_ble_eq_true rfl, Nat.le_of_ble_eq_true rfl⟩ ⟨Nat.le_of_ble_eq_true rfl, Nat.le_of_ble_eq_true rfl⟩ hl.1 rfl rfl (Nat.le_of_ble_eq_true rfl) dd_Checker_needWithin_8) hS (fun H locs hP hS => ?_)
  clear hq
  refine lv_iload_n hx hb dd_Checker_needWithin_11 rfl (lv_at hl 1 rfl) ?_
  obtain ⟨a4, u5, hq, h⟩ := xp_seq h
  refine xk_goesI (xr_S (As := [.int x0]) (rest := []) C hP hS (ct_Types_isReference htr hok hq) kq_Checker_125 ⟨rfl, rfl, Nat.le_of_ble_eq_true rfl, Nat.le_of_ble_eq_true rfl⟩ ⟨Nat.le_of_ble_eq_true rfl, Nat.le_of_ble_eq_true rfl⟩ hl.1 rfl rfl (Nat.le_of_ble_eq_true rfl) dd_Checker_needWithin_12) hS (fun H locs hP hS => ?_)
  clear hq
  refine lv_if_eq (tgt := 28) hx hb dd_Checker_needWithin_15 (by decide) (fun hc => ?_) (fun hc => ?_)
  · have h := xp_t hc h
    exact wj_Checker_needWithin_28 htr C hne h hP hS (lv_sub hl [] rfl)
  · have h := xp_f hc h
    refine lv_iload_n hx hb dd_Checker_needWithin_18 rfl (lv_at hl 1 rfl) ?_
    obtain ⟨a7, u8, hq, h⟩ := xp_seq h
    refine xk_goesI (xr_S (As := [.int x0]) (rest := []) C hP hS (ct_Types_target htr hok hq) kq_Checker_128 ⟨rfl, rfl, Nat.le_of_ble_eq_true rfl, Nat.le_of_ble_eq_true rfl⟩ ⟨Nat.le_of_ble_eq_true rfl, Nat.le_of_ble_eq_true rfl⟩ hl.1 rfl rfl (Nat.le_of_ble_eq_true rfl) dd_Checker_needWithin_19) hS (fun H locs hP hS => ?_)
    clear hq
    refine lv_iconst (v := 3) hx hb dd_Checker_needWithin_22 (by decide) ?_
    refine lv_isub hx hb dd_Checker_needWithin_23 ?_
    refine lv_iload_n hx hb dd_Checker_needWithin_24 rfl (lv_at hl 2 rfl) ?_
    refine lv_icmp_gt (tgt := 32) hx hb dd_Checker_needWithin_25 (by decide) (fun hc => ?_) (fun hc => ?_)
    · have h := xp_t hc h
      refine lv_iconst (v := 0) hx hb dd_Checker_needWithin_32 (by decide) ?_
      exact wj_Checker_needWithin_33 htr C hne h hP hS (lv_sub hl [] rfl)
    · have h := xp_f hc h
      exact wj_Checker_needWithin_28 htr C hne h hP hS (lv_sub hl [] rfl)
abbrev rm_Checker_checkTypes : Room := { frames := 8, cells := 1, slots := 6, locals := 142 }
noncomputable def jb_Checker_checkTypes_86 (fu : Nat) (k2 : Int32 → xk_St → Option ((Unit ⊕ Nat) × xk_St)) : Nat → Int32 → Int32 → xk_St → Option ((Unit ⊕ Nat) × xk_St)
  | 0 => fun _ _ _ => none
  | n + 1 => fun b1 b2 u =>
    xs_let (jb_Checker_checkTypes_86 fu k2 n) fun k86 =>
    (if b1 < 0 ∨ 65 ≤ b1.toNatClampNeg then none else if (u.2.2.1 4 b1.toNatClampNeg) ≤ b2 then ((xs_let (b1 + (1 : Int32)) fun a3 => k2 a3 u)) else ((xs_seq (fm_Types_outcome b1 b2 u) fun a4 u5 => xs_try (fm_Checker_needWithin a4 b1 u5) fun _ u6 => xs_let (b2 + (1 : Int32)) fun a7 => k86 b1 a7 u6)))
noncomputable def jb_Checker_checkTypes_51 (fu : Nat) (k2 : Int32 → xk_St → Option ((Unit ⊕ Nat) × xk_St)) : Nat → Int32 → Int32 → xk_St → Option ((Unit ⊕ Nat) × xk_St)
  | 0 => fun _ _ _ => none
  | n + 1 => fun b1 b2 u =>
    xs_let (jb_Checker_checkTypes_51 fu k2 n) fun k51 =>
    (if b1 < 0 ∨ 65 ≤ b1.toNatClampNeg then none else if (u.2.2.1 3 b1.toNatClampNeg) ≤ b2 then (jb_Checker_checkTypes_86 fu k2 fu b1 (0 : Int32) u) else ((xs_seq (fm_Types_member b1 b2 u) fun a8 u9 => xs_try (fm_Checker_needWithin a8 b1 u9) fun _ u10 => xs_let (b2 + (1 : Int32)) fun a11 => k51 b1 a11 u10)))
noncomputable def jb_Checker_checkTypes_46 (fu : Nat) (k2 : Int32 → xk_St → Option ((Unit ⊕ Nat) × xk_St)) (b1 : Int32) (s0 : Int32) (u : xk_St) : Option ((Unit ⊕ Nat) × xk_St) :=
  (xs_try (fm_Checker_need s0 u) fun _ u2 => jb_Checker_checkTypes_51 fu k2 fu b1 (0 : Int32) u2)
noncomputable def jb_Checker_checkTypes_45 (fu : Nat) (k2 : Int32 → xk_St → Option ((Unit ⊕ Nat) × xk_St)) (b1 : Int32) (u : xk_St) : Option ((Unit ⊕ Nat) × xk_St) :=
  jb_Checker_checkTypes_46 fu k2 b1 (0 : Int32) u
noncomputable def jb_Checker_checkTypes_2 (fu : Nat) : Nat → Int32 → xk_St → Option ((Unit ⊕ Nat) × xk_St)
  | 0 => fun _ _ => none
  | n + 1 => fun b1 u =>
    xs_let (jb_Checker_checkTypes_2 fu  n) fun k2 =>
    if (u.1 7) ≤ b1 then ((xs_seq (fm_Types_group fu u) fun _ u1 => some (.inl (()), u1))) else ((if b1 < 0 ∨ 65 ≤ b1.toNatClampNeg then none else if (16 : Int32) < (u.2.2.1 3 b1.toNatClampNeg) then (jb_Checker_checkTypes_45 fu k2 b1 u) else ((if b1 < 0 ∨ 65 ≤ b1.toNatClampNeg then none else if (16 : Int32) < (u.2.2.1 4 b1.toNatClampNeg) then (jb_Checker_checkTypes_45 fu k2 b1 u) else (jb_Checker_checkTypes_46 fu k2 b1 (1 : Int32) u)))))
noncomputable def fm_Checker_checkTypes (fu : Nat) (u : xk_St) : Option ((Unit ⊕ Nat) × xk_St) :=
  jb_Checker_checkTypes_2 fu fu (0 : Int32) u
set_option maxHeartbeats 4000000 in
set_option maxRecDepth 100000 in
theorem wj_Checker_checkTypes_86 {p : Program} {l : Launch} {e : Env} {s : State} {m : MethodId} {args : Array Value} {below : List Frame} {meth : Method} {c : Code} {D : va_G} {ad : Nat → Nat} {ca : Nat → ClassId} {ads : List Nat} {fu : Nat} (htr : l.stackTraces = false) (C : xk_C D kx_cl (kx_ty ca) (kw_h ad ca) ads "ModuleHouse$Checker" prog_2_method_4_code 3 none p e s m args meth c) (hne : c.exceptionTable.isEmpty = true) {u' : xk_St} {r : (Unit ⊕ Nat)} {k2 : Int32 → xk_St → Option ((Unit ⊕ Nat) × xk_St)} (hk2 : ∀ (c0 : Int32) (u : xk_St) (H : Heap) (locs : List Loc) (ls : Array Slot), k2 c0 u = some (r, u') → va_P D kx_cl (kw_h ad ca u) H → va_S (xk_A ads s.heap.size) s.heap H locs → lv_has ls 3 [(0, .ref (ad 55)), (1, .int c0)] → W p l e rm_Checker_checkTypes s m args below meth c H locs 0 0 (xk_MQ below (xk_Qc D kx_cl (kw_h ad ca) ads (xo_v r) u') args s (xk_A ads s.heap.size)) (F0 m 2 ls [])) : ∀ {n : Nat} {b1 : Int32} {b2 : Int32} {u : xk_St} {H : Heap} {locs : List Loc} {ls : Array Slot} (h : jb_Checker_checkTypes_86 fu k2 n b1 b2 u = some (r, u')) (hP : va_P D kx_cl (kw_h ad ca u) H) (hS : va_S (xk_A ads s.heap.size) s.heap H locs) (hl : lv_has ls 3 [(0, .ref (ad 55)), (1, .int b1), (2, .int b2)]), W p l e rm_Checker_checkTypes s m args below meth c H locs 0 0 (xk_MQ below (xk_Qc D kx_cl (kw_h ad ca) ads (xo_v r) u') args s (xk_A ads s.heap.size)) (F0 m 86 ls []) := by
  intro n
  have hx := C.1.1
  have hb := C.1.2.1
  have hok := C.2.2.1
  induction n with
  | zero =>
    intro _ _ u H locs ls h
    have h : none = some (r, u') := h
    cases h
  | succ n ih =>
    intro b1 b2 u H locs ls h hP hS hl
    unfold jb_Checker_checkTypes_86 at h
    obtain ⟨k86, ek86, h⟩ := xp_let h
    have hk86 : ∀ (c0 : Int32) (c1 : Int32) (u : xk_St) (H : Heap) (locs : List Loc) (ls : Array Slot), k86 c0 c1 u = some (r, u') → va_P D kx_cl (kw_h ad ca u) H → va_S (xk_A ads s.heap.size) s.heap H locs → lv_has ls 3 [(0, .ref (ad 55)), (1, .int c0), (2, .int c1)] → W p l e rm_Checker_checkTypes s m args below meth c H locs 0 0 (xk_MQ below (xk_Qc D kx_cl (kw_h ad ca) ads (xo_v r) u') args s (xk_A ads s.heap.size)) (F0 m 86 ls []) := by
      intro c0 c1 u H locs ls h hP hS hl
      subst ek86
      exact ih h hP hS hl
    clear ih ek86
    refine lv_iload_n hx hb dd_Checker_checkTypes_86 rfl (lv_at hl 2 rfl) ?_
    refine lv_aload_n hx hb dd_Checker_checkTypes_87 rfl (lv_at hl 0 rfl) ?_
    refine gf_h_Checker_55_types C hP dd_Checker_checkTypes_88 ?_
    refine gf_h_Checker_6_results C hP dd_Checker_checkTypes_91 ?_
    refine lv_iload_n hx hb dd_Checker_checkTypes_94 rfl (lv_at hl 1 rfl) ?_
    obtain ⟨hi, h⟩ := xp_g h
    refine al_h_9 C hP hi dd_Checker_checkTypes_95 ?_
    refine lv_icmp_ge (tgt := 119) hx hb dd_Checker_checkTypes_96 (by decide) (fun hc => ?_) (fun hc => ?_)
    · have h := xp_t hc h
      obtain ⟨a3, ea3, h⟩ := xp_let h
      refine lv_iinc (v := a3) (lv' := [(1, .int a3), (0, .ref (ad 55)), (2, .int b2)]) hx hb dd_Checker_checkTypes_119 hl (k := 1) rfl (by rw [ea3]; first | rfl | decide) (by decide) rfl (fun ls hl => ?_)
      refine lv_goto (tgt := 2) hx hb dd_Checker_checkTypes_122 (by decide) ?_
      exact hk2 a3 u _ _ _ h hP hS (lv_sub hl [1, 0] rfl)
    · have h := xp_f hc h
      refine lv_aload_n hx hb dd_Checker_checkTypes_99 rfl (lv_at hl 0 rfl) ?_
      refine lv_aload_n hx hb dd_Checker_checkTypes_100 rfl (lv_at hl 0 rfl) ?_
      refine gf_h_Checker_55_types C hP dd_Checker_checkTypes_101 ?_
      refine lv_iload_n hx hb dd_Checker_checkTypes_104 rfl (lv_at hl 1 rfl) ?_
      refine lv_iload_n hx hb dd_Checker_checkTypes_105 rfl (lv_at hl 2 rfl) ?_
      obtain ⟨a4, u5, hq, h⟩ := xp_seq h
      refine xk_goesI (xr_V (As := [.int b1, .int b2]) (rest := [.ref (ad 55)]) C hP hS (ct_Types_outcome htr hok hq) kq_Checker_115 6 9 rfl rfl ⟨rfl, rfl, Nat.le_of_ble_eq_true rfl, Nat.le_of_ble_eq_true rfl⟩ ⟨Nat.le_of_ble_eq_true rfl, Nat.le_of_ble_eq_true rfl⟩ hl.1 rfl rfl (Nat.le_of_ble_eq_true rfl) dd_Checker_checkTypes_106) hS (fun H locs hP hS => ?_)
      clear hq
      refine lv_iload_n hx hb dd_Checker_checkTypes_109 rfl (lv_at hl 1 rfl) ?_
      rcases xp_try h with ⟨rx, u6, hq, h⟩ | ⟨kx, ux, hq, h⟩
      rotate_left
      · obtain ⟨rfl, rfl⟩ := xp_q h
        exact xk_up (xr_V (As := [.int a4, .int b1]) (rest := []) C hP hS (ct_Checker_needWithin htr hok hq) kq_Checker_111 55 1 rfl rfl ⟨rfl, rfl, Nat.le_of_ble_eq_true rfl, Nat.le_of_ble_eq_true rfl⟩ ⟨Nat.le_of_ble_eq_true rfl, Nat.le_of_ble_eq_true rfl⟩ hl.1 rfl rfl (Nat.le_of_ble_eq_true rfl) dd_Checker_checkTypes_110) hS hne C.2.2.2.2.2.2.1
      refine xk_goesV (xr_V (As := [.int a4, .int b1]) (rest := []) C hP hS (ct_Checker_needWithin htr hok hq) kq_Checker_111 55 1 rfl rfl ⟨rfl, rfl, Nat.le_of_ble_eq_true rfl, Nat.le_of_ble_eq_true rfl⟩ ⟨Nat.le_of_ble_eq_true rfl, Nat.le_of_ble_eq_true rfl⟩ hl.1 rfl rfl (Nat.le_of_ble_eq_true rfl) dd_Checker_checkTypes_110) hS (fun H locs hP hS => ?_)
      clear hq
      obtain ⟨a7, ea7, h⟩ := xp_let h
      refine lv_iinc (v := a7) (lv' := [(2, .int a7), (0, .ref (ad 55)), (1, .int b1)]) hx hb dd_Checker_checkTypes_113 hl (k := 2) rfl (by rw [ea7]; first | rfl | decide) (by decide) rfl (fun ls hl => ?_)
      refine lv_goto (tgt := 86) hx hb dd_Checker_checkTypes_116 (by decide) ?_
      exact hk86 b1 a7 u6 _ _ _ h hP hS (lv_sub hl [1, 2, 0] rfl)
set_option maxHeartbeats 4000000 in
set_option maxRecDepth 100000 in
theorem wj_Checker_checkTypes_51 {p : Program} {l : Launch} {e : Env} {s : State} {m : MethodId} {args : Array Value} {below : List Frame} {meth : Method} {c : Code} {D : va_G} {ad : Nat → Nat} {ca : Nat → ClassId} {ads : List Nat} {fu : Nat} (htr : l.stackTraces = false) (C : xk_C D kx_cl (kx_ty ca) (kw_h ad ca) ads "ModuleHouse$Checker" prog_2_method_4_code 3 none p e s m args meth c) (hne : c.exceptionTable.isEmpty = true) {u' : xk_St} {r : (Unit ⊕ Nat)} {k2 : Int32 → xk_St → Option ((Unit ⊕ Nat) × xk_St)} (hk2 : ∀ (c0 : Int32) (u : xk_St) (H : Heap) (locs : List Loc) (ls : Array Slot), k2 c0 u = some (r, u') → va_P D kx_cl (kw_h ad ca u) H → va_S (xk_A ads s.heap.size) s.heap H locs → lv_has ls 3 [(0, .ref (ad 55)), (1, .int c0)] → W p l e rm_Checker_checkTypes s m args below meth c H locs 0 0 (xk_MQ below (xk_Qc D kx_cl (kw_h ad ca) ads (xo_v r) u') args s (xk_A ads s.heap.size)) (F0 m 2 ls [])) : ∀ {n : Nat} {b1 : Int32} {b2 : Int32} {u : xk_St} {H : Heap} {locs : List Loc} {ls : Array Slot} (h : jb_Checker_checkTypes_51 fu k2 n b1 b2 u = some (r, u')) (hP : va_P D kx_cl (kw_h ad ca u) H) (hS : va_S (xk_A ads s.heap.size) s.heap H locs) (hl : lv_has ls 3 [(0, .ref (ad 55)), (1, .int b1), (2, .int b2)]), W p l e rm_Checker_checkTypes s m args below meth c H locs 0 0 (xk_MQ below (xk_Qc D kx_cl (kw_h ad ca) ads (xo_v r) u') args s (xk_A ads s.heap.size)) (F0 m 51 ls []) := by
  intro n
  have hx := C.1.1
  have hb := C.1.2.1
  have hok := C.2.2.1
  induction n with
  | zero =>
    intro _ _ u H locs ls h
    have h : none = some (r, u') := h
    cases h
  | succ n ih =>
    intro b1 b2 u H locs ls h hP hS hl
    unfold jb_Checker_checkTypes_51 at h
    obtain ⟨k51, ek51, h⟩ := xp_let h
    have hk51 : ∀ (c0 : Int32) (c1 : Int32) (u : xk_St) (H : Heap) (locs : List Loc) (ls : Array Slot), k51 c0 c1 u = some (r, u') → va_P D kx_cl (kw_h ad ca u) H → va_S (xk_A ads s.heap.size) s.heap H locs → lv_has ls 3 [(0, .ref (ad 55)), (1, .int c0), (2, .int c1)] → W p l e rm_Checker_checkTypes s m args below meth c H locs 0 0 (xk_MQ below (xk_Qc D kx_cl (kw_h ad ca) ads (xo_v r) u') args s (xk_A ads s.heap.size)) (F0 m 51 ls []) := by
      intro c0 c1 u H locs ls h hP hS hl
      subst ek51
      exact ih h hP hS hl
    clear ih ek51
    refine lv_iload_n hx hb dd_Checker_checkTypes_51 rfl (lv_at hl 2 rfl) ?_
    refine lv_aload_n hx hb dd_Checker_checkTypes_52 rfl (lv_at hl 0 rfl) ?_
    refine gf_h_Checker_55_types C hP dd_Checker_checkTypes_53 ?_
    refine gf_h_Checker_6_members C hP dd_Checker_checkTypes_56 ?_
    refine lv_iload_n hx hb dd_Checker_checkTypes_59 rfl (lv_at hl 1 rfl) ?_
    obtain ⟨hi, h⟩ := xp_g h
    refine al_h_8 C hP hi dd_Checker_checkTypes_60 ?_
    refine lv_icmp_ge (tgt := 84) hx hb dd_Checker_checkTypes_61 (by decide) (fun hc => ?_) (fun hc => ?_)
    · have h := xp_t hc h
      refine lv_iconst (v := 0) hx hb dd_Checker_checkTypes_84 (by decide) ?_
      refine lv_istore_n (lv' := [(2, .int (0 : Int32)), (0, .ref (ad 55)), (1, .int b1)]) hx hb dd_Checker_checkTypes_85 rfl hl (by decide) rfl (fun ls hl => ?_)
      exact wj_Checker_checkTypes_86 htr C hne hk2 h hP hS (lv_sub hl [1, 2, 0] rfl)
    · have h := xp_f hc h
      refine lv_aload_n hx hb dd_Checker_checkTypes_64 rfl (lv_at hl 0 rfl) ?_
      refine lv_aload_n hx hb dd_Checker_checkTypes_65 rfl (lv_at hl 0 rfl) ?_
      refine gf_h_Checker_55_types C hP dd_Checker_checkTypes_66 ?_
      refine lv_iload_n hx hb dd_Checker_checkTypes_69 rfl (lv_at hl 1 rfl) ?_
      refine lv_iload_n hx hb dd_Checker_checkTypes_70 rfl (lv_at hl 2 rfl) ?_
      obtain ⟨a8, u9, hq, h⟩ := xp_seq h
      refine xk_goesI (xr_V (As := [.int b1, .int b2]) (rest := [.ref (ad 55)]) C hP hS (ct_Types_member htr hok hq) kq_Checker_107 6 9 rfl rfl ⟨rfl, rfl, Nat.le_of_ble_eq_true rfl, Nat.le_of_ble_eq_true rfl⟩ ⟨Nat.le_of_ble_eq_true rfl, Nat.le_of_ble_eq_true rfl⟩ hl.1 rfl rfl (Nat.le_of_ble_eq_true rfl) dd_Checker_checkTypes_71) hS (fun H locs hP hS => ?_)
      clear hq
      refine lv_iload_n hx hb dd_Checker_checkTypes_74 rfl (lv_at hl 1 rfl) ?_
      rcases xp_try h with ⟨rx, u10, hq, h⟩ | ⟨kx, ux, hq, h⟩
      rotate_left
      · obtain ⟨rfl, rfl⟩ := xp_q h
        exact xk_up (xr_V (As := [.int a8, .int b1]) (rest := []) C hP hS (ct_Checker_needWithin htr hok hq) kq_Checker_111 55 1 rfl rfl ⟨rfl, rfl, Nat.le_of_ble_eq_true rfl, Nat.le_of_ble_eq_true rfl⟩ ⟨Nat.le_of_ble_eq_true rfl, Nat.le_of_ble_eq_true rfl⟩ hl.1 rfl rfl (Nat.le_of_ble_eq_true rfl) dd_Checker_checkTypes_75) hS hne C.2.2.2.2.2.2.1
      refine xk_goesV (xr_V (As := [.int a8, .int b1]) (rest := []) C hP hS (ct_Checker_needWithin htr hok hq) kq_Checker_111 55 1 rfl rfl ⟨rfl, rfl, Nat.le_of_ble_eq_true rfl, Nat.le_of_ble_eq_true rfl⟩ ⟨Nat.le_of_ble_eq_true rfl, Nat.le_of_ble_eq_true rfl⟩ hl.1 rfl rfl (Nat.le_of_ble_eq_true rfl) dd_Checker_checkTypes_75) hS (fun H locs hP hS => ?_)
      clear hq
      obtain ⟨a11, ea11, h⟩ := xp_let h
      refine lv_iinc (v := a11) (lv' := [(2, .int a11), (0, .ref (ad 55)), (1, .int b1)]) hx hb dd_Checker_checkTypes_78 hl (k := 2) rfl (by rw [ea11]; first | rfl | decide) (by decide) rfl (fun ls hl => ?_)
      refine lv_goto (tgt := 51) hx hb dd_Checker_checkTypes_81 (by decide) ?_
      exact hk51 b1 a11 u10 _ _ _ h hP hS (lv_sub hl [1, 2, 0] rfl)
set_option maxHeartbeats 4000000 in
set_option maxRecDepth 100000 in
theorem wj_Checker_checkTypes_46 {p : Program} {l : Launch} {e : Env} {s : State} {m : MethodId} {args : Array Value} {below : List Frame} {meth : Method} {c : Code} {D : va_G} {ad : Nat → Nat} {ca : Nat → ClassId} {ads : List Nat} {fu : Nat} (htr : l.stackTraces = false) (C : xk_C D kx_cl (kx_ty ca) (kw_h ad ca) ads "ModuleHouse$Checker" prog_2_method_4_code 3 none p e s m args meth c) (hne : c.exceptionTable.isEmpty = true) {u' : xk_St} {r : (Unit ⊕ Nat)} {k2 : Int32 → xk_St → Option ((Unit ⊕ Nat) × xk_St)} (hk2 : ∀ (c0 : Int32) (u : xk_St) (H : Heap) (locs : List Loc) (ls : Array Slot), k2 c0 u = some (r, u') → va_P D kx_cl (kw_h ad ca u) H → va_S (xk_A ads s.heap.size) s.heap H locs → lv_has ls 3 [(0, .ref (ad 55)), (1, .int c0)] → W p l e rm_Checker_checkTypes s m args below meth c H locs 0 0 (xk_MQ below (xk_Qc D kx_cl (kw_h ad ca) ads (xo_v r) u') args s (xk_A ads s.heap.size)) (F0 m 2 ls [])) {b1 : Int32} {s0 : Int32} {u : xk_St} {H : Heap} {locs : List Loc} {ls : Array Slot} (h : jb_Checker_checkTypes_46 fu k2 b1 s0 u = some (r, u')) (hP : va_P D kx_cl (kw_h ad ca u) H) (hS : va_S (xk_A ads s.heap.size) s.heap H locs) (hl : lv_has ls 3 [(0, .ref (ad 55)), (1, .int b1)]) : W p l e rm_Checker_checkTypes s m args below meth c H locs 0 0 (xk_MQ below (xk_Qc D kx_cl (kw_h ad ca) ads (xo_v r) u') args s (xk_A ads s.heap.size)) (F0 m 46 ls [.int s0]) := by
  have hx := C.1.1
  have hb := C.1.2.1
  have hok := C.2.2.1
  unfold jb_Checker_checkTypes_46 at h
  rcases xp_try h with ⟨rx, u2, hq, h⟩ | ⟨kx, ux, hq, h⟩
  rotate_left
  · obtain ⟨rfl, rfl⟩ := xp_q h
    exact xk_up (xr_S (As := [.int s0]) (rest := []) C hP hS (ct_Checker_need htr hok hq) kq_Checker_60 ⟨rfl, rfl, Nat.le_of_ble_eq_true rfl, Nat.le_of_ble_eq_true rfl⟩ ⟨Nat.le_of_ble_eq_true rfl, Nat.le_of_ble_eq_true rfl⟩ hl.1 rfl rfl (Nat.le_of_ble_eq_true rfl) dd_Checker_checkTypes_46) hS hne C.2.2.2.2.2.2.1
  refine xk_goesV (xr_S (As := [.int s0]) (rest := []) C hP hS (ct_Checker_need htr hok hq) kq_Checker_60 ⟨rfl, rfl, Nat.le_of_ble_eq_true rfl, Nat.le_of_ble_eq_true rfl⟩ ⟨Nat.le_of_ble_eq_true rfl, Nat.le_of_ble_eq_true rfl⟩ hl.1 rfl rfl (Nat.le_of_ble_eq_true rfl) dd_Checker_checkTypes_46) hS (fun H locs hP hS => ?_)
  clear hq
  refine lv_iconst (v := 0) hx hb dd_Checker_checkTypes_49 (by decide) ?_
  refine lv_istore_n (lv' := [(2, .int (0 : Int32)), (0, .ref (ad 55)), (1, .int b1)]) hx hb dd_Checker_checkTypes_50 rfl hl (by decide) rfl (fun ls hl => ?_)
  exact wj_Checker_checkTypes_51 htr C hne hk2 h hP hS (lv_sub hl [1, 2, 0] rfl)
set_option maxHeartbeats 4000000 in
set_option maxRecDepth 100000 in
theorem wj_Checker_checkTypes_45 {p : Program} {l : Launch} {e : Env} {s : State} {m : MethodId} {args : Array Value} {below : List Frame} {meth : Method} {c : Code} {D : va_G} {ad : Nat → Nat} {ca : Nat → ClassId} {ads : List Nat} {fu : Nat} (htr : l.stackTraces = false) (C : xk_C D kx_cl (kx_ty ca) (kw_h ad ca) ads "ModuleHouse$Checker" prog_2_method_4_code 3 none p e s m args meth c) (hne : c.exceptionTable.isEmpty = true) {u' : xk_St} {r : (Unit ⊕ Nat)} {k2 : Int32 → xk_St → Option ((Unit ⊕ Nat) × xk_St)} (hk2 : ∀ (c0 : Int32) (u : xk_St) (H : Heap) (locs : List Loc) (ls : Array Slot), k2 c0 u = some (r, u') → va_P D kx_cl (kw_h ad ca u) H → va_S (xk_A ads s.heap.size) s.heap H locs → lv_has ls 3 [(0, .ref (ad 55)), (1, .int c0)] → W p l e rm_Checker_checkTypes s m args below meth c H locs 0 0 (xk_MQ below (xk_Qc D kx_cl (kw_h ad ca) ads (xo_v r) u') args s (xk_A ads s.heap.size)) (F0 m 2 ls [])) {b1 : Int32} {u : xk_St} {H : Heap} {locs : List Loc} {ls : Array Slot} (h : jb_Checker_checkTypes_45 fu k2 b1 u = some (r, u')) (hP : va_P D kx_cl (kw_h ad ca u) H) (hS : va_S (xk_A ads s.heap.size) s.heap H locs) (hl : lv_has ls 3 [(0, .ref (ad 55)), (1, .int b1)]) : W p l e rm_Checker_checkTypes s m args below meth c H locs 0 0 (xk_MQ below (xk_Qc D kx_cl (kw_h ad ca) ads (xo_v r) u') args s (xk_A ads s.heap.size)) (F0 m 45 ls []) := by
  have hx := C.1.1
  have hb := C.1.2.1
  have hok := C.2.2.1
  unfold jb_Checker_checkTypes_45 at h
  refine lv_iconst (v := 0) hx hb dd_Checker_checkTypes_45 (by decide) ?_
  exact wj_Checker_checkTypes_46 htr C hne hk2 h hP hS (lv_sub hl [0, 1] rfl)
set_option maxHeartbeats 4000000 in
set_option maxRecDepth 100000 in
theorem wj_Checker_checkTypes_2 {p : Program} {l : Launch} {e : Env} {s : State} {m : MethodId} {args : Array Value} {below : List Frame} {meth : Method} {c : Code} {D : va_G} {ad : Nat → Nat} {ca : Nat → ClassId} {ads : List Nat} {fu : Nat} (htr : l.stackTraces = false) (C : xk_C D kx_cl (kx_ty ca) (kw_h ad ca) ads "ModuleHouse$Checker" prog_2_method_4_code 3 none p e s m args meth c) (hne : c.exceptionTable.isEmpty = true) {u' : xk_St} {r : (Unit ⊕ Nat)} : ∀ {n : Nat} {b1 : Int32} {u : xk_St} {H : Heap} {locs : List Loc} {ls : Array Slot} (h : jb_Checker_checkTypes_2 fu  n b1 u = some (r, u')) (hP : va_P D kx_cl (kw_h ad ca u) H) (hS : va_S (xk_A ads s.heap.size) s.heap H locs) (hl : lv_has ls 3 [(0, .ref (ad 55)), (1, .int b1)]), W p l e rm_Checker_checkTypes s m args below meth c H locs 0 0 (xk_MQ below (xk_Qc D kx_cl (kw_h ad ca) ads (xo_v r) u') args s (xk_A ads s.heap.size)) (F0 m 2 ls []) := by
  intro n
  have hx := C.1.1
  have hb := C.1.2.1
  have hok := C.2.2.1
  induction n with
  | zero =>
    intro _ u H locs ls h
    have h : none = some (r, u') := h
    cases h
  | succ n ih =>
    intro b1 u H locs ls h hP hS hl
    unfold jb_Checker_checkTypes_2 at h
    obtain ⟨k2, ek2, h⟩ := xp_let h
    have hk2 : ∀ (c0 : Int32) (u : xk_St) (H : Heap) (locs : List Loc) (ls : Array Slot), k2 c0 u = some (r, u') → va_P D kx_cl (kw_h ad ca u) H → va_S (xk_A ads s.heap.size) s.heap H locs → lv_has ls 3 [(0, .ref (ad 55)), (1, .int c0)] → W p l e rm_Checker_checkTypes s m args below meth c H locs 0 0 (xk_MQ below (xk_Qc D kx_cl (kw_h ad ca) ads (xo_v r) u') args s (xk_A ads s.heap.size)) (F0 m 2 ls []) := by
      intro c0 u H locs ls h hP hS hl
      subst ek2
      exact ih h hP hS hl
    clear ih ek2
    refine lv_iload_n hx hb dd_Checker_checkTypes_2 rfl (lv_at hl 1 rfl) ?_
    refine lv_aload_n hx hb dd_Checker_checkTypes_3 rfl (lv_at hl 0 rfl) ?_
    refine gf_h_Checker_55_types C hP dd_Checker_checkTypes_4 ?_
    refine gf_h_Checker_6_count C hP dd_Checker_checkTypes_7 ?_
    refine lv_icmp_ge (tgt := 125) hx hb dd_Checker_checkTypes_10 (by decide) (fun hc => ?_) (fun hc => ?_)
    · have h := xp_t hc h
      refine lv_aload_n hx hb dd_Checker_checkTypes_125 rfl (lv_at hl 0 rfl) ?_
      refine gf_h_Checker_55_types C hP dd_Checker_checkTypes_126 ?_
      obtain ⟨rx, u1, hq, h⟩ := xp_seq h
      refine xk_goesV (xr_V (As := []) (rest := []) C hP hS (ct_Types_group htr hok hq) kq_Checker_118 6 9 rfl rfl ⟨rfl, rfl, Nat.le_of_ble_eq_true rfl, Nat.le_of_ble_eq_true rfl⟩ ⟨Nat.le_of_ble_eq_true rfl, Nat.le_of_ble_eq_true rfl⟩ hl.1 rfl rfl (Nat.le_of_ble_eq_true rfl) dd_Checker_checkTypes_129) hS (fun H locs hP hS => ?_)
      clear hq
      obtain ⟨rfl, rfl⟩ := xp_r h
      exact xr_vret C hP hS dd_Checker_checkTypes_132
    · have h := xp_f hc h
      refine lv_aload_n hx hb dd_Checker_checkTypes_13 rfl (lv_at hl 0 rfl) ?_
      refine gf_h_Checker_55_types C hP dd_Checker_checkTypes_14 ?_
      refine gf_h_Checker_6_members C hP dd_Checker_checkTypes_17 ?_
      refine lv_iload_n hx hb dd_Checker_checkTypes_20 rfl (lv_at hl 1 rfl) ?_
      obtain ⟨hi, h⟩ := xp_g h
      refine al_h_8 C hP hi dd_Checker_checkTypes_21 ?_
      refine lv_bipush (v := 16) hx hb dd_Checker_checkTypes_22 (by decide) ?_
      refine lv_icmp_gt (tgt := 45) hx hb dd_Checker_checkTypes_24 (by decide) (fun hc => ?_) (fun hc => ?_)
      · have h := xp_t hc h
        exact wj_Checker_checkTypes_45 htr C hne hk2 h hP hS (lv_sub hl [0, 1] rfl)
      · have h := xp_f hc h
        refine lv_aload_n hx hb dd_Checker_checkTypes_27 rfl (lv_at hl 0 rfl) ?_
        refine gf_h_Checker_55_types C hP dd_Checker_checkTypes_28 ?_
        refine gf_h_Checker_6_results C hP dd_Checker_checkTypes_31 ?_
        refine lv_iload_n hx hb dd_Checker_checkTypes_34 rfl (lv_at hl 1 rfl) ?_
        obtain ⟨hi, h⟩ := xp_g h
        refine al_h_9 C hP hi dd_Checker_checkTypes_35 ?_
        refine lv_bipush (v := 16) hx hb dd_Checker_checkTypes_36 (by decide) ?_
        refine lv_icmp_gt (tgt := 45) hx hb dd_Checker_checkTypes_38 (by decide) (fun hc => ?_) (fun hc => ?_)
        · have h := xp_t hc h
          exact wj_Checker_checkTypes_45 htr C hne hk2 h hP hS (lv_sub hl [0, 1] rfl)
        · have h := xp_f hc h
          refine lv_iconst (v := 1) hx hb dd_Checker_checkTypes_41 (by decide) ?_
          refine lv_goto (tgt := 46) hx hb dd_Checker_checkTypes_42 (by decide) ?_
          exact wj_Checker_checkTypes_46 htr C hne hk2 h hP hS (lv_sub hl [0, 1] rfl)
set_option maxHeartbeats 4000000 in
set_option maxRecDepth 100000 in
theorem ct_Checker_checkTypes {l : Launch} {D : va_G} {ad : Nat → Nat} {ca : Nat → ClassId} {ads : List Nat} (htr : l.stackTraces = false) (hok : xk_ok (kw_h ad ca) ads) {fu : Nat} {u u' : xk_St} {r : (Unit ⊕ Nat)} (h : fm_Checker_checkTypes fu u = some (r, u')) :
    ∀ sz, xk_Met l ⟨"ModuleHouse$Checker", "checkTypes", "()V"⟩ (Cond.code ⟨"ModuleHouse$Checker", "checkTypes", "()V"⟩ prog_2_method_4_code 3 none :: xk_gd) rm_Checker_checkTypes (xk_Pc D kx_cl (kx_ty ca) (kw_h ad ca) ads xk_F sz [.ref (ad 55)] u) (xk_Qc D kx_cl (kw_h ad ca) ads (xo_v r) u') (xk_A ads sz) := by
  unfold fm_Checker_checkTypes at h
  refine xk_con (by decide) htr hok (Nat.le_of_ble_eq_true rfl) (fun p e s m below meth c ls C hne hl hP => ?_)
  have hx := C.1.1
  have hb := C.1.2.1
  have hS : va_S (xk_A ads s.heap.size) s.heap s.heap [] := va_S.rf
  have hl : lv_has ls 3 [(0, .ref (ad 55))] := hl
  refine lv_iconst (v := 0) hx hb dd_Checker_checkTypes_0 (by decide) ?_
  refine lv_istore_n (lv' := [(1, .int (0 : Int32)), (0, .ref (ad 55))]) hx hb dd_Checker_checkTypes_1 rfl hl (by decide) rfl (fun ls hl => ?_)
  exact wj_Checker_checkTypes_2 htr C hne h hP hS (lv_sub hl [1, 0] rfl)
abbrev rm_Types_is : Room := { frames := 1, cells := 1, slots := 6, locals := 0 }
noncomputable def fm_Types_is (x0 : Int32) (x1 : Int32) (u : xk_St) : Option (Int32 × xk_St) :=
  if (u.1 7) ≤ x0 then (some ((0 : Int32), u)) else ((if x0 < 0 ∨ 65 ≤ x0.toNatClampNeg then none else if (u.2.2.1 2 x0.toNatClampNeg) = x1 then (some ((1 : Int32), u)) else (some ((0 : Int32), u))))
set_option maxHeartbeats 4000000 in
set_option maxRecDepth 100000 in
theorem ct_Types_is {l : Launch} {D : va_G} {ad : Nat → Nat} {ca : Nat → ClassId} {ads : List Nat} (htr : l.stackTraces = false) (hok : xk_ok (kw_h ad ca) ads) {x0 : Int32} {x1 : Int32} {u u' : xk_St} {r : Int32} (h : fm_Types_is x0 x1 u = some (r, u')) :
    ∀ sz, xk_Met l ⟨"ModuleHouse$Types", "is", "(II)Z"⟩ (Cond.code ⟨"ModuleHouse$Types", "is", "(II)Z"⟩ prog_11_method_15_code 3 (some .boolean) :: xk_gd) rm_Types_is (xk_Pc D kx_cl (kx_ty ca) (kw_h ad ca) ads xk_F sz [.ref (ad 6), .int x0, .int x1] u) (xk_Qc D kx_cl (kw_h ad ca) ads (xo_i (.inl r)) u') (xk_A ads sz) := by
  unfold fm_Types_is at h
  refine xk_con (by decide) htr hok (Nat.le_of_ble_eq_true rfl) (fun p e s m below meth c ls C hne hl hP => ?_)
  have hx := C.1.1
  have hb := C.1.2.1
  have hS : va_S (xk_A ads s.heap.size) s.heap s.heap [] := va_S.rf
  have hl : lv_has ls 3 [(0, .ref (ad 6)), (1, .int x0), (2, .int x1)] := hl
  refine lv_iload_n hx hb dd_Types_is_0 rfl (lv_at hl 1 rfl) ?_
  refine lv_aload_n hx hb dd_Types_is_1 rfl (lv_at hl 0 rfl) ?_
  refine gf_h_Types_6_count C hP dd_Types_is_2 ?_
  refine lv_icmp_ge (tgt := 22) hx hb dd_Types_is_5 (by decide) (fun hc => ?_) (fun hc => ?_)
  · have h := xp_t hc h
    refine lv_iconst (v := 0) hx hb dd_Types_is_22 (by decide) ?_
    obtain ⟨rfl, rfl⟩ := xp_r h
    exact xr_zret C hP hS (by decide) dd_Types_is_23
  · have h := xp_f hc h
    refine lv_aload_n hx hb dd_Types_is_8 rfl (lv_at hl 0 rfl) ?_
    refine gf_h_Types_6_kind C hP dd_Types_is_9 ?_
    refine lv_iload_n hx hb dd_Types_is_12 rfl (lv_at hl 1 rfl) ?_
    obtain ⟨hi, h⟩ := xp_g h
    refine al_h_7 C hP hi dd_Types_is_13 ?_
    refine lv_iload_n hx hb dd_Types_is_14 rfl (lv_at hl 2 rfl) ?_
    refine lv_icmp_ne (tgt := 22) hx hb dd_Types_is_15 (by decide) (fun hc => ?_) (fun hc => ?_)
    · have h := xp_f hc h
      refine lv_iconst (v := 0) hx hb dd_Types_is_22 (by decide) ?_
      obtain ⟨rfl, rfl⟩ := xp_r h
      exact xr_zret C hP hS (by decide) dd_Types_is_23
    · have h := xp_t hc h
      refine lv_iconst (v := 1) hx hb dd_Types_is_18 (by decide) ?_
      refine lv_goto (tgt := 23) hx hb dd_Types_is_19 (by decide) ?_
      obtain ⟨rfl, rfl⟩ := xp_r h
      exact xr_zret C hP hS (by decide) dd_Types_is_23
abbrev rm_Checker_checkFunctions : Room := { frames := 7, cells := 1, slots := 6, locals := 120 }
noncomputable def jb_Checker_checkFunctions_133 (fu : Nat) (s0 : Int32) (u : xk_St) : Option ((Unit ⊕ Nat) × xk_St) :=
  (xs_try (fm_Checker_need s0 u) fun _ u3 => some (.inl (()), u3))
noncomputable def jb_Checker_checkFunctions_132 (fu : Nat) (u : xk_St) : Option ((Unit ⊕ Nat) × xk_St) :=
  jb_Checker_checkFunctions_133 fu (0 : Int32) u
noncomputable def jb_Checker_checkFunctions_82 (fu : Nat) (s0 : Int32) (u : xk_St) : Option ((Unit ⊕ Nat) × xk_St) :=
  (xs_try (fm_Checker_need s0 u) fun _ u1 => if (u1.1 6) < 0 ∨ 65 ≤ (u1.1 6).toNatClampNeg then none else xs_let (u1.2.2.1 12 (u1.1 6).toNatClampNeg) fun a2 => if a2 < 0 ∨ 65 ≤ a2.toNatClampNeg then none else if (u1.2.2.1 3 a2.toNatClampNeg) = (0 : Int32) then ((if a2 < 0 ∨ 65 ≤ a2.toNatClampNeg then none else if (u1.2.2.1 4 a2.toNatClampNeg) = (0 : Int32) then (jb_Checker_checkFunctions_133 fu (1 : Int32) u1) else (jb_Checker_checkFunctions_132 fu u1))) else (jb_Checker_checkFunctions_132 fu u1))
noncomputable def jb_Checker_checkFunctions_2 (fu : Nat) : Nat → Int32 → xk_St → Option ((Unit ⊕ Nat) × xk_St)
  | 0 => fun _ _ => none
  | n + 1 => fun b1 u =>
    xs_let (jb_Checker_checkFunctions_2 fu  n) fun k2 =>
    if (u.1 10) ≤ b1 then (if (u.1 6) = (-1 : Int32) then (some (.inl (()), u)) else (if (u.1 10) ≤ (u.1 6) then (jb_Checker_checkFunctions_82 fu (0 : Int32) u) else (jb_Checker_checkFunctions_82 fu (1 : Int32) u))) else ((if b1 < 0 ∨ 65 ≤ b1.toNatClampNeg then none else xs_seq (fm_Types_is (u.2.2.1 12 b1.toNatClampNeg) (96 : Int32) u) fun a4 u5 => xs_try (fm_Checker_need a4 u5) fun _ u6 => xs_let (b1 + (1 : Int32)) fun a7 => k2 a7 u6))
noncomputable def fm_Checker_checkFunctions (fu : Nat) (u : xk_St) : Option ((Unit ⊕ Nat) × xk_St) :=
  jb_Checker_checkFunctions_2 fu fu (0 : Int32) u
set_option maxHeartbeats 4000000 in
set_option maxRecDepth 100000 in
theorem wj_Checker_checkFunctions_133 {p : Program} {l : Launch} {e : Env} {s : State} {m : MethodId} {args : Array Value} {below : List Frame} {meth : Method} {c : Code} {D : va_G} {ad : Nat → Nat} {ca : Nat → ClassId} {ads : List Nat} {fu : Nat} (htr : l.stackTraces = false) (C : xk_C D kx_cl (kx_ty ca) (kw_h ad ca) ads "ModuleHouse$Checker" prog_2_method_6_code 2 none p e s m args meth c) (hne : c.exceptionTable.isEmpty = true) {u' : xk_St} {r : (Unit ⊕ Nat)} {s0 : Int32} {u : xk_St} {H : Heap} {locs : List Loc} {ls : Array Slot} (h : jb_Checker_checkFunctions_133 fu  s0 u = some (r, u')) (hP : va_P D kx_cl (kw_h ad ca u) H) (hS : va_S (xk_A ads s.heap.size) s.heap H locs) (hl : lv_has ls 2 []) : W p l e rm_Checker_checkFunctions s m args below meth c H locs 0 0 (xk_MQ below (xk_Qc D kx_cl (kw_h ad ca) ads (xo_v r) u') args s (xk_A ads s.heap.size)) (F0 m 133 ls [.int s0]) := by
  have hx := C.1.1
  have hb := C.1.2.1
  have hok := C.2.2.1
  unfold jb_Checker_checkFunctions_133 at h
  rcases xp_try h with ⟨rx, u3, hq, h⟩ | ⟨kx, ux, hq, h⟩
  rotate_left
  · obtain ⟨rfl, rfl⟩ := xp_q h
    exact xk_up (xr_S (As := [.int s0]) (rest := []) C hP hS (ct_Checker_need htr hok hq) kq_Checker_60 ⟨rfl, rfl, Nat.le_of_ble_eq_true rfl, Nat.le_of_ble_eq_true rfl⟩ ⟨Nat.le_of_ble_eq_true rfl, Nat.le_of_ble_eq_true rfl⟩ hl.1 rfl rfl (Nat.le_of_ble_eq_true rfl) dd_Checker_checkFunctions_133) hS hne C.2.2.2.2.2.2.1
  refine xk_goesV (xr_S (As := [.int s0]) (rest := []) C hP hS (ct_Checker_need htr hok hq) kq_Checker_60 ⟨rfl, rfl, Nat.le_of_ble_eq_true rfl, Nat.le_of_ble_eq_true rfl⟩ ⟨Nat.le_of_ble_eq_true rfl, Nat.le_of_ble_eq_true rfl⟩ hl.1 rfl rfl (Nat.le_of_ble_eq_true rfl) dd_Checker_checkFunctions_133) hS (fun H locs hP hS => ?_)
  clear hq
  obtain ⟨rfl, rfl⟩ := xp_r h
  exact xr_vret C hP hS dd_Checker_checkFunctions_136
set_option maxHeartbeats 4000000 in
set_option maxRecDepth 100000 in
theorem wj_Checker_checkFunctions_132 {p : Program} {l : Launch} {e : Env} {s : State} {m : MethodId} {args : Array Value} {below : List Frame} {meth : Method} {c : Code} {D : va_G} {ad : Nat → Nat} {ca : Nat → ClassId} {ads : List Nat} {fu : Nat} (htr : l.stackTraces = false) (C : xk_C D kx_cl (kx_ty ca) (kw_h ad ca) ads "ModuleHouse$Checker" prog_2_method_6_code 2 none p e s m args meth c) (hne : c.exceptionTable.isEmpty = true) {u' : xk_St} {r : (Unit ⊕ Nat)} {u : xk_St} {H : Heap} {locs : List Loc} {ls : Array Slot} (h : jb_Checker_checkFunctions_132 fu   u = some (r, u')) (hP : va_P D kx_cl (kw_h ad ca u) H) (hS : va_S (xk_A ads s.heap.size) s.heap H locs) (hl : lv_has ls 2 []) : W p l e rm_Checker_checkFunctions s m args below meth c H locs 0 0 (xk_MQ below (xk_Qc D kx_cl (kw_h ad ca) ads (xo_v r) u') args s (xk_A ads s.heap.size)) (F0 m 132 ls []) := by
  have hx := C.1.1
  have hb := C.1.2.1
  have hok := C.2.2.1
  unfold jb_Checker_checkFunctions_132 at h
  refine lv_iconst (v := 0) hx hb dd_Checker_checkFunctions_132 (by decide) ?_
  exact wj_Checker_checkFunctions_133 htr C hne h hP hS (lv_sub hl [] rfl)
set_option maxHeartbeats 4000000 in
set_option maxRecDepth 100000 in
theorem wj_Checker_checkFunctions_82 {p : Program} {l : Launch} {e : Env} {s : State} {m : MethodId} {args : Array Value} {below : List Frame} {meth : Method} {c : Code} {D : va_G} {ad : Nat → Nat} {ca : Nat → ClassId} {ads : List Nat} {fu : Nat} (htr : l.stackTraces = false) (C : xk_C D kx_cl (kx_ty ca) (kw_h ad ca) ads "ModuleHouse$Checker" prog_2_method_6_code 2 none p e s m args meth c) (hne : c.exceptionTable.isEmpty = true) {u' : xk_St} {r : (Unit ⊕ Nat)} {s0 : Int32} {u : xk_St} {H : Heap} {locs : List Loc} {ls : Array Slot} (h : jb_Checker_checkFunctions_82 fu  s0 u = some (r, u')) (hP : va_P D kx_cl (kw_h ad ca u) H) (hS : va_S (xk_A ads s.heap.size) s.heap H locs) (hl : lv_has ls 2 [(0, .ref (ad 55))]) : W p l e rm_Checker_checkFunctions s m args below meth c H locs 0 0 (xk_MQ below (xk_Qc D kx_cl (kw_h ad ca) ads (xo_v r) u') args s (xk_A ads s.heap.size)) (F0 m 82 ls [.int s0]) := by
  have hx := C.1.1
  have hb := C.1.2.1
  have hok := C.2.2.1
  unfold jb_Checker_checkFunctions_82 at h
  rcases xp_try h with ⟨rx, u1, hq, h⟩ | ⟨kx, ux, hq, h⟩
  rotate_left
  · obtain ⟨rfl, rfl⟩ := xp_q h
    exact xk_up (xr_S (As := [.int s0]) (rest := []) C hP hS (ct_Checker_need htr hok hq) kq_Checker_60 ⟨rfl, rfl, Nat.le_of_ble_eq_true rfl, Nat.le_of_ble_eq_true rfl⟩ ⟨Nat.le_of_ble_eq_true rfl, Nat.le_of_ble_eq_true rfl⟩ hl.1 rfl rfl (Nat.le_of_ble_eq_true rfl) dd_Checker_checkFunctions_82) hS hne C.2.2.2.2.2.2.1
  refine xk_goesV (xr_S (As := [.int s0]) (rest := []) C hP hS (ct_Checker_need htr hok hq) kq_Checker_60 ⟨rfl, rfl, Nat.le_of_ble_eq_true rfl, Nat.le_of_ble_eq_true rfl⟩ ⟨Nat.le_of_ble_eq_true rfl, Nat.le_of_ble_eq_true rfl⟩ hl.1 rfl rfl (Nat.le_of_ble_eq_true rfl) dd_Checker_checkFunctions_82) hS (fun H locs hP hS => ?_)
  clear hq
  refine lv_aload_n hx hb dd_Checker_checkFunctions_85 rfl (lv_at hl 0 rfl) ?_
  refine gf_h_Checker_55_module C hP dd_Checker_checkFunctions_86 ?_
  refine gf_h_Checker_4_functions C hP dd_Checker_checkFunctions_89 ?_
  refine gf_h_Checker_19_kind C hP dd_Checker_checkFunctions_92 ?_
  refine lv_aload_n hx hb dd_Checker_checkFunctions_95 rfl (lv_at hl 0 rfl) ?_
  refine gf_h_Checker_55_module C hP dd_Checker_checkFunctions_96 ?_
  refine gf_h_Checker_4_starter C hP dd_Checker_checkFunctions_99 ?_
  obtain ⟨hi, h⟩ := xp_g h
  refine al_h_20 C hP hi dd_Checker_checkFunctions_102 ?_
  obtain ⟨a2, ea2, h⟩ := xp_let h
  refine xr_nami ea2 ?_
  refine lv_istore_n (lv' := [(1, .int a2), (0, .ref (ad 55))]) hx hb dd_Checker_checkFunctions_103 rfl hl (by decide) rfl (fun ls hl => ?_)
  refine lv_aload_n hx hb dd_Checker_checkFunctions_104 rfl (lv_at hl 1 rfl) ?_
  refine gf_h_Checker_55_types C hP dd_Checker_checkFunctions_105 ?_
  refine gf_h_Checker_6_members C hP dd_Checker_checkFunctions_108 ?_
  refine lv_iload_n hx hb dd_Checker_checkFunctions_111 rfl (lv_at hl 0 rfl) ?_
  obtain ⟨hi, h⟩ := xp_g h
  refine al_h_8 C hP hi dd_Checker_checkFunctions_112 ?_
  refine lv_if_ne (tgt := 132) hx hb dd_Checker_checkFunctions_113 (by decide) (fun hc => ?_) (fun hc => ?_)
  · have h := xp_f hc h
    exact wj_Checker_checkFunctions_132 htr C hne h hP hS (lv_sub hl [] rfl)
  · have h := xp_t hc h
    refine lv_aload_n hx hb dd_Checker_checkFunctions_116 rfl (lv_at hl 1 rfl) ?_
    refine gf_h_Checker_55_types C hP dd_Checker_checkFunctions_117 ?_
    refine gf_h_Checker_6_results C hP dd_Checker_checkFunctions_120 ?_
    refine lv_iload_n hx hb dd_Checker_checkFunctions_123 rfl (lv_at hl 0 rfl) ?_
    obtain ⟨hi, h⟩ := xp_g h
    refine al_h_9 C hP hi dd_Checker_checkFunctions_124 ?_
    refine lv_if_ne (tgt := 132) hx hb dd_Checker_checkFunctions_125 (by decide) (fun hc => ?_) (fun hc => ?_)
    · have h := xp_f hc h
      exact wj_Checker_checkFunctions_132 htr C hne h hP hS (lv_sub hl [] rfl)
    · have h := xp_t hc h
      refine lv_iconst (v := 1) hx hb dd_Checker_checkFunctions_128 (by decide) ?_
      refine lv_goto (tgt := 133) hx hb dd_Checker_checkFunctions_129 (by decide) ?_
      exact wj_Checker_checkFunctions_133 htr C hne h hP hS (lv_sub hl [] rfl)
set_option maxHeartbeats 4000000 in
set_option maxRecDepth 100000 in
theorem wj_Checker_checkFunctions_2 {p : Program} {l : Launch} {e : Env} {s : State} {m : MethodId} {args : Array Value} {below : List Frame} {meth : Method} {c : Code} {D : va_G} {ad : Nat → Nat} {ca : Nat → ClassId} {ads : List Nat} {fu : Nat} (htr : l.stackTraces = false) (C : xk_C D kx_cl (kx_ty ca) (kw_h ad ca) ads "ModuleHouse$Checker" prog_2_method_6_code 2 none p e s m args meth c) (hne : c.exceptionTable.isEmpty = true) {u' : xk_St} {r : (Unit ⊕ Nat)} : ∀ {n : Nat} {b1 : Int32} {u : xk_St} {H : Heap} {locs : List Loc} {ls : Array Slot} (h : jb_Checker_checkFunctions_2 fu  n b1 u = some (r, u')) (hP : va_P D kx_cl (kw_h ad ca u) H) (hS : va_S (xk_A ads s.heap.size) s.heap H locs) (hl : lv_has ls 2 [(0, .ref (ad 55)), (1, .int b1)]), W p l e rm_Checker_checkFunctions s m args below meth c H locs 0 0 (xk_MQ below (xk_Qc D kx_cl (kw_h ad ca) ads (xo_v r) u') args s (xk_A ads s.heap.size)) (F0 m 2 ls []) := by
  intro n
  have hx := C.1.1
  have hb := C.1.2.1
  have hok := C.2.2.1
  induction n with
  | zero =>
    intro _ u H locs ls h
    have h : none = some (r, u') := h
    cases h
  | succ n ih =>
    intro b1 u H locs ls h hP hS hl
    unfold jb_Checker_checkFunctions_2 at h
    obtain ⟨k2, ek2, h⟩ := xp_let h
    have hk2 : ∀ (c0 : Int32) (u : xk_St) (H : Heap) (locs : List Loc) (ls : Array Slot), k2 c0 u = some (r, u') → va_P D kx_cl (kw_h ad ca u) H → va_S (xk_A ads s.heap.size) s.heap H locs → lv_has ls 2 [(0, .ref (ad 55)), (1, .int c0)] → W p l e rm_Checker_checkFunctions s m args below meth c H locs 0 0 (xk_MQ below (xk_Qc D kx_cl (kw_h ad ca) ads (xo_v r) u') args s (xk_A ads s.heap.size)) (F0 m 2 ls []) := by
      intro c0 u H locs ls h hP hS hl
      subst ek2
      exact ih h hP hS hl
    clear ih ek2
    refine lv_iload_n hx hb dd_Checker_checkFunctions_2 rfl (lv_at hl 1 rfl) ?_
    refine lv_aload_n hx hb dd_Checker_checkFunctions_3 rfl (lv_at hl 0 rfl) ?_
    refine gf_h_Checker_55_module C hP dd_Checker_checkFunctions_4 ?_
    refine gf_h_Checker_4_functions C hP dd_Checker_checkFunctions_7 ?_
    refine gf_h_Checker_19_count C hP dd_Checker_checkFunctions_10 ?_
    refine lv_icmp_ge (tgt := 46) hx hb dd_Checker_checkFunctions_13 (by decide) (fun hc => ?_) (fun hc => ?_)
    · have h := xp_t hc h
      refine lv_aload_n hx hb dd_Checker_checkFunctions_46 rfl (lv_at hl 0 rfl) ?_
      refine gf_h_Checker_55_module C hP dd_Checker_checkFunctions_47 ?_
      refine gf_h_Checker_4_starter C hP dd_Checker_checkFunctions_50 ?_
      refine lv_iconst (v := (-1)) hx hb dd_Checker_checkFunctions_53 (by decide) ?_
      refine lv_icmp_eq (tgt := 136) hx hb dd_Checker_checkFunctions_54 (by decide) (fun hc => ?_) (fun hc => ?_)
      · have h := xp_t hc h
        obtain ⟨rfl, rfl⟩ := xp_r h
        exact xr_vret C hP hS dd_Checker_checkFunctions_136
      · have h := xp_f hc h
        refine lv_aload_n hx hb dd_Checker_checkFunctions_57 rfl (lv_at hl 0 rfl) ?_
        refine gf_h_Checker_55_module C hP dd_Checker_checkFunctions_58 ?_
        refine gf_h_Checker_4_starter C hP dd_Checker_checkFunctions_61 ?_
        refine lv_aload_n hx hb dd_Checker_checkFunctions_64 rfl (lv_at hl 0 rfl) ?_
        refine gf_h_Checker_55_module C hP dd_Checker_checkFunctions_65 ?_
        refine gf_h_Checker_4_functions C hP dd_Checker_checkFunctions_68 ?_
        refine gf_h_Checker_19_count C hP dd_Checker_checkFunctions_71 ?_
        refine lv_icmp_ge (tgt := 81) hx hb dd_Checker_checkFunctions_74 (by decide) (fun hc => ?_) (fun hc => ?_)
        · have h := xp_t hc h
          refine lv_iconst (v := 0) hx hb dd_Checker_checkFunctions_81 (by decide) ?_
          exact wj_Checker_checkFunctions_82 htr C hne h hP hS (lv_sub hl [0] rfl)
        · have h := xp_f hc h
          refine lv_iconst (v := 1) hx hb dd_Checker_checkFunctions_77 (by decide) ?_
          refine lv_goto (tgt := 82) hx hb dd_Checker_checkFunctions_78 (by decide) ?_
          exact wj_Checker_checkFunctions_82 htr C hne h hP hS (lv_sub hl [0] rfl)
    · have h := xp_f hc h
      refine lv_aload_n hx hb dd_Checker_checkFunctions_16 rfl (lv_at hl 0 rfl) ?_
      refine gf_h_Checker_55_types C hP dd_Checker_checkFunctions_17 ?_
      refine lv_aload_n hx hb dd_Checker_checkFunctions_20 rfl (lv_at hl 0 rfl) ?_
      refine gf_h_Checker_55_module C hP dd_Checker_checkFunctions_21 ?_
      refine gf_h_Checker_4_functions C hP dd_Checker_checkFunctions_24 ?_
      refine gf_h_Checker_19_kind C hP dd_Checker_checkFunctions_27 ?_
      refine lv_iload_n hx hb dd_Checker_checkFunctions_30 rfl (lv_at hl 1 rfl) ?_
      obtain ⟨hi, h⟩ := xp_g h
      refine al_h_20 C hP hi dd_Checker_checkFunctions_31 ?_
      refine lv_bipush (v := 96) hx hb dd_Checker_checkFunctions_32 (by decide) ?_
      obtain ⟨a4, u5, hq, h⟩ := xp_seq h
      refine xk_goesI (xr_V (As := [.int (u.2.2.1 12 b1.toNatClampNeg), .int (96 : Int32)]) (rest := []) C hP hS (ct_Types_is htr hok hq) kq_Checker_135 6 9 rfl rfl ⟨rfl, rfl, Nat.le_of_ble_eq_true rfl, Nat.le_of_ble_eq_true rfl⟩ ⟨Nat.le_of_ble_eq_true rfl, Nat.le_of_ble_eq_true rfl⟩ hl.1 rfl rfl (Nat.le_of_ble_eq_true rfl) dd_Checker_checkFunctions_34) hS (fun H locs hP hS => ?_)
      clear hq
      rcases xp_try h with ⟨rx, u6, hq, h⟩ | ⟨kx, ux, hq, h⟩
      rotate_left
      · obtain ⟨rfl, rfl⟩ := xp_q h
        exact xk_up (xr_S (As := [.int a4]) (rest := []) C hP hS (ct_Checker_need htr hok hq) kq_Checker_60 ⟨rfl, rfl, Nat.le_of_ble_eq_true rfl, Nat.le_of_ble_eq_true rfl⟩ ⟨Nat.le_of_ble_eq_true rfl, Nat.le_of_ble_eq_true rfl⟩ hl.1 rfl rfl (Nat.le_of_ble_eq_true rfl) dd_Checker_checkFunctions_37) hS hne C.2.2.2.2.2.2.1
      refine xk_goesV (xr_S (As := [.int a4]) (rest := []) C hP hS (ct_Checker_need htr hok hq) kq_Checker_60 ⟨rfl, rfl, Nat.le_of_ble_eq_true rfl, Nat.le_of_ble_eq_true rfl⟩ ⟨Nat.le_of_ble_eq_true rfl, Nat.le_of_ble_eq_true rfl⟩ hl.1 rfl rfl (Nat.le_of_ble_eq_true rfl) dd_Checker_checkFunctions_37) hS (fun H locs hP hS => ?_)
      clear hq
      obtain ⟨a7, ea7, h⟩ := xp_let h
      refine lv_iinc (v := a7) (lv' := [(1, .int a7), (0, .ref (ad 55))]) hx hb dd_Checker_checkFunctions_40 hl (k := 1) rfl (by rw [ea7]; first | rfl | decide) (by decide) rfl (fun ls hl => ?_)
      refine lv_goto (tgt := 2) hx hb dd_Checker_checkFunctions_43 (by decide) ?_
      exact hk2 a7 u6 _ _ _ h hP hS (lv_sub hl [1, 0] rfl)
set_option maxHeartbeats 4000000 in
set_option maxRecDepth 100000 in
theorem ct_Checker_checkFunctions {l : Launch} {D : va_G} {ad : Nat → Nat} {ca : Nat → ClassId} {ads : List Nat} (htr : l.stackTraces = false) (hok : xk_ok (kw_h ad ca) ads) {fu : Nat} {u u' : xk_St} {r : (Unit ⊕ Nat)} (h : fm_Checker_checkFunctions fu u = some (r, u')) :
    ∀ sz, xk_Met l ⟨"ModuleHouse$Checker", "checkFunctions", "()V"⟩ (Cond.code ⟨"ModuleHouse$Checker", "checkFunctions", "()V"⟩ prog_2_method_6_code 2 none :: xk_gd) rm_Checker_checkFunctions (xk_Pc D kx_cl (kx_ty ca) (kw_h ad ca) ads xk_F sz [.ref (ad 55)] u) (xk_Qc D kx_cl (kw_h ad ca) ads (xo_v r) u') (xk_A ads sz) := by
  unfold fm_Checker_checkFunctions at h
  refine xk_con (by decide) htr hok (Nat.le_of_ble_eq_true rfl) (fun p e s m below meth c ls C hne hl hP => ?_)
  have hx := C.1.1
  have hb := C.1.2.1
  have hS : va_S (xk_A ads s.heap.size) s.heap s.heap [] := va_S.rf
  have hl : lv_has ls 2 [(0, .ref (ad 55))] := hl
  refine lv_iconst (v := 0) hx hb dd_Checker_checkFunctions_0 (by decide) ?_
  refine lv_istore_n (lv' := [(1, .int (0 : Int32)), (0, .ref (ad 55))]) hx hb dd_Checker_checkFunctions_1 rfl hl (by decide) rfl (fun ls hl => ?_)
  exact wj_Checker_checkFunctions_2 htr C hne h hP hS (lv_sub hl [1, 0] rfl)
abbrev rm_Checker_checkLimits : Room := { frames := 7, cells := 1, slots := 6, locals := 120 }
noncomputable def jb_Checker_checkLimits_53 (s0 : Int32) (u : xk_St) : Option ((Unit ⊕ Nat) × xk_St) :=
  (xs_try (fm_Checker_need s0 u) fun _ u2 => some (.inl (()), u2))
noncomputable def jb_Checker_checkLimits_48 (u : xk_St) : Option ((Unit ⊕ Nat) × xk_St) :=
  jb_Checker_checkLimits_53 (1 : Int32) u
noncomputable def jb_Checker_checkLimits_52 (u : xk_St) : Option ((Unit ⊕ Nat) × xk_St) :=
  jb_Checker_checkLimits_53 (0 : Int32) u
noncomputable def jb_Checker_checkLimits_13 (b2 : Int32) (s0 : Int32) (u : xk_St) : Option ((Unit ⊕ Nat) × xk_St) :=
  (xs_try (fm_Checker_need s0 u) fun _ u1 => if (u1.1 11) = (0 : Int32) then (jb_Checker_checkLimits_48 u1) else ((if (0 : Int32) < 0 ∨ 65 ≤ (0 : Int32).toNatClampNeg then none else if b2 < (u1.2.2.1 16 (0 : Int32).toNatClampNeg) then (jb_Checker_checkLimits_52 u1) else ((if (0 : Int32) < 0 ∨ 65 ≤ (0 : Int32).toNatClampNeg then none else if (0 : Int32) < 0 ∨ 65 ≤ (0 : Int32).toNatClampNeg then none else if (u1.2.2.1 17 (0 : Int32).toNatClampNeg) < (u1.2.2.1 16 (0 : Int32).toNatClampNeg) then (jb_Checker_checkLimits_52 u1) else (jb_Checker_checkLimits_48 u1))))))
noncomputable def fm_Checker_checkLimits (x1 : Int32) (u : xk_St) : Option ((Unit ⊕ Nat) × xk_St) :=
  if (1 : Int32) < (u.1 11) then (jb_Checker_checkLimits_13 x1 (0 : Int32) u) else (jb_Checker_checkLimits_13 x1 (1 : Int32) u)
set_option maxHeartbeats 4000000 in
set_option maxRecDepth 100000 in
theorem wj_Checker_checkLimits_53 {p : Program} {l : Launch} {e : Env} {s : State} {m : MethodId} {args : Array Value} {below : List Frame} {meth : Method} {c : Code} {D : va_G} {ad : Nat → Nat} {ca : Nat → ClassId} {ads : List Nat} (htr : l.stackTraces = false) (C : xk_C D kx_cl (kx_ty ca) (kw_h ad ca) ads "ModuleHouse$Checker" prog_2_method_7_code 3 none p e s m args meth c) (hne : c.exceptionTable.isEmpty = true) {u' : xk_St} {r : (Unit ⊕ Nat)} {s0 : Int32} {u : xk_St} {H : Heap} {locs : List Loc} {ls : Array Slot} (h : jb_Checker_checkLimits_53  s0 u = some (r, u')) (hP : va_P D kx_cl (kw_h ad ca u) H) (hS : va_S (xk_A ads s.heap.size) s.heap H locs) (hl : lv_has ls 3 []) : W p l e rm_Checker_checkLimits s m args below meth c H locs 0 0 (xk_MQ below (xk_Qc D kx_cl (kw_h ad ca) ads (xo_v r) u') args s (xk_A ads s.heap.size)) (F0 m 53 ls [.int s0]) := by
  have hx := C.1.1
  have hb := C.1.2.1
  have hok := C.2.2.1
  unfold jb_Checker_checkLimits_53 at h
  rcases xp_try h with ⟨rx, u2, hq, h⟩ | ⟨kx, ux, hq, h⟩
  rotate_left
  · obtain ⟨rfl, rfl⟩ := xp_q h
    exact xk_up (xr_S (As := [.int s0]) (rest := []) C hP hS (ct_Checker_need htr hok hq) kq_Checker_60 ⟨rfl, rfl, Nat.le_of_ble_eq_true rfl, Nat.le_of_ble_eq_true rfl⟩ ⟨Nat.le_of_ble_eq_true rfl, Nat.le_of_ble_eq_true rfl⟩ hl.1 rfl rfl (Nat.le_of_ble_eq_true rfl) dd_Checker_checkLimits_53) hS hne C.2.2.2.2.2.2.1
  refine xk_goesV (xr_S (As := [.int s0]) (rest := []) C hP hS (ct_Checker_need htr hok hq) kq_Checker_60 ⟨rfl, rfl, Nat.le_of_ble_eq_true rfl, Nat.le_of_ble_eq_true rfl⟩ ⟨Nat.le_of_ble_eq_true rfl, Nat.le_of_ble_eq_true rfl⟩ hl.1 rfl rfl (Nat.le_of_ble_eq_true rfl) dd_Checker_checkLimits_53) hS (fun H locs hP hS => ?_)
  clear hq
  obtain ⟨rfl, rfl⟩ := xp_r h
  exact xr_vret C hP hS dd_Checker_checkLimits_56
set_option maxHeartbeats 4000000 in
set_option maxRecDepth 100000 in
theorem wj_Checker_checkLimits_48 {p : Program} {l : Launch} {e : Env} {s : State} {m : MethodId} {args : Array Value} {below : List Frame} {meth : Method} {c : Code} {D : va_G} {ad : Nat → Nat} {ca : Nat → ClassId} {ads : List Nat} (htr : l.stackTraces = false) (C : xk_C D kx_cl (kx_ty ca) (kw_h ad ca) ads "ModuleHouse$Checker" prog_2_method_7_code 3 none p e s m args meth c) (hne : c.exceptionTable.isEmpty = true) {u' : xk_St} {r : (Unit ⊕ Nat)} {u : xk_St} {H : Heap} {locs : List Loc} {ls : Array Slot} (h : jb_Checker_checkLimits_48   u = some (r, u')) (hP : va_P D kx_cl (kw_h ad ca u) H) (hS : va_S (xk_A ads s.heap.size) s.heap H locs) (hl : lv_has ls 3 []) : W p l e rm_Checker_checkLimits s m args below meth c H locs 0 0 (xk_MQ below (xk_Qc D kx_cl (kw_h ad ca) ads (xo_v r) u') args s (xk_A ads s.heap.size)) (F0 m 48 ls []) := by
  have hx := C.1.1
  have hb := C.1.2.1
  have hok := C.2.2.1
  unfold jb_Checker_checkLimits_48 at h
  refine lv_iconst (v := 1) hx hb dd_Checker_checkLimits_48 (by decide) ?_
  refine lv_goto (tgt := 53) hx hb dd_Checker_checkLimits_49 (by decide) ?_
  exact wj_Checker_checkLimits_53 htr C hne h hP hS (lv_sub hl [] rfl)
set_option maxHeartbeats 4000000 in
set_option maxRecDepth 100000 in
theorem wj_Checker_checkLimits_52 {p : Program} {l : Launch} {e : Env} {s : State} {m : MethodId} {args : Array Value} {below : List Frame} {meth : Method} {c : Code} {D : va_G} {ad : Nat → Nat} {ca : Nat → ClassId} {ads : List Nat} (htr : l.stackTraces = false) (C : xk_C D kx_cl (kx_ty ca) (kw_h ad ca) ads "ModuleHouse$Checker" prog_2_method_7_code 3 none p e s m args meth c) (hne : c.exceptionTable.isEmpty = true) {u' : xk_St} {r : (Unit ⊕ Nat)} {u : xk_St} {H : Heap} {locs : List Loc} {ls : Array Slot} (h : jb_Checker_checkLimits_52   u = some (r, u')) (hP : va_P D kx_cl (kw_h ad ca u) H) (hS : va_S (xk_A ads s.heap.size) s.heap H locs) (hl : lv_has ls 3 []) : W p l e rm_Checker_checkLimits s m args below meth c H locs 0 0 (xk_MQ below (xk_Qc D kx_cl (kw_h ad ca) ads (xo_v r) u') args s (xk_A ads s.heap.size)) (F0 m 52 ls []) := by
  have hx := C.1.1
  have hb := C.1.2.1
  have hok := C.2.2.1
  unfold jb_Checker_checkLimits_52 at h
  refine lv_iconst (v := 0) hx hb dd_Checker_checkLimits_52 (by decide) ?_
  exact wj_Checker_checkLimits_53 htr C hne h hP hS (lv_sub hl [] rfl)
set_option maxHeartbeats 4000000 in
set_option maxRecDepth 100000 in
theorem wj_Checker_checkLimits_13 {p : Program} {l : Launch} {e : Env} {s : State} {m : MethodId} {args : Array Value} {below : List Frame} {meth : Method} {c : Code} {D : va_G} {ad : Nat → Nat} {ca : Nat → ClassId} {ads : List Nat} (htr : l.stackTraces = false) (C : xk_C D kx_cl (kx_ty ca) (kw_h ad ca) ads "ModuleHouse$Checker" prog_2_method_7_code 3 none p e s m args meth c) (hne : c.exceptionTable.isEmpty = true) {u' : xk_St} {r : (Unit ⊕ Nat)} {b2 : Int32} {s0 : Int32} {u : xk_St} {H : Heap} {locs : List Loc} {ls : Array Slot} (h : jb_Checker_checkLimits_13  b2 s0 u = some (r, u')) (hP : va_P D kx_cl (kw_h ad ca u) H) (hS : va_S (xk_A ads s.heap.size) s.heap H locs) (hl : lv_has ls 3 [(1, .ref (ad 24)), (2, .int b2)]) : W p l e rm_Checker_checkLimits s m args below meth c H locs 0 0 (xk_MQ below (xk_Qc D kx_cl (kw_h ad ca) ads (xo_v r) u') args s (xk_A ads s.heap.size)) (F0 m 13 ls [.int s0]) := by
  have hx := C.1.1
  have hb := C.1.2.1
  have hok := C.2.2.1
  unfold jb_Checker_checkLimits_13 at h
  rcases xp_try h with ⟨rx, u1, hq, h⟩ | ⟨kx, ux, hq, h⟩
  rotate_left
  · obtain ⟨rfl, rfl⟩ := xp_q h
    exact xk_up (xr_S (As := [.int s0]) (rest := []) C hP hS (ct_Checker_need htr hok hq) kq_Checker_60 ⟨rfl, rfl, Nat.le_of_ble_eq_true rfl, Nat.le_of_ble_eq_true rfl⟩ ⟨Nat.le_of_ble_eq_true rfl, Nat.le_of_ble_eq_true rfl⟩ hl.1 rfl rfl (Nat.le_of_ble_eq_true rfl) dd_Checker_checkLimits_13) hS hne C.2.2.2.2.2.2.1
  refine xk_goesV (xr_S (As := [.int s0]) (rest := []) C hP hS (ct_Checker_need htr hok hq) kq_Checker_60 ⟨rfl, rfl, Nat.le_of_ble_eq_true rfl, Nat.le_of_ble_eq_true rfl⟩ ⟨Nat.le_of_ble_eq_true rfl, Nat.le_of_ble_eq_true rfl⟩ hl.1 rfl rfl (Nat.le_of_ble_eq_true rfl) dd_Checker_checkLimits_13) hS (fun H locs hP hS => ?_)
  clear hq
  refine lv_aload_n hx hb dd_Checker_checkLimits_16 rfl (lv_at hl 0 rfl) ?_
  refine gf_h_Checker_24_count C hP dd_Checker_checkLimits_17 ?_
  refine lv_if_eq (tgt := 48) hx hb dd_Checker_checkLimits_20 (by decide) (fun hc => ?_) (fun hc => ?_)
  · have h := xp_t hc h
    exact wj_Checker_checkLimits_48 htr C hne h hP hS (lv_sub hl [] rfl)
  · have h := xp_f hc h
    refine lv_aload_n hx hb dd_Checker_checkLimits_23 rfl (lv_at hl 0 rfl) ?_
    refine gf_h_Checker_24_first C hP dd_Checker_checkLimits_24 ?_
    refine lv_iconst (v := 0) hx hb dd_Checker_checkLimits_27 (by decide) ?_
    obtain ⟨hi, h⟩ := xp_g h
    refine al_h_26 C hP hi dd_Checker_checkLimits_28 ?_
    refine lv_iload_n hx hb dd_Checker_checkLimits_29 rfl (lv_at hl 1 rfl) ?_
    refine lv_icmp_gt (tgt := 52) hx hb dd_Checker_checkLimits_30 (by decide) (fun hc => ?_) (fun hc => ?_)
    · have h := xp_t hc h
      exact wj_Checker_checkLimits_52 htr C hne h hP hS (lv_sub hl [] rfl)
    · have h := xp_f hc h
      refine lv_aload_n hx hb dd_Checker_checkLimits_33 rfl (lv_at hl 0 rfl) ?_
      refine gf_h_Checker_24_first C hP dd_Checker_checkLimits_34 ?_
      refine lv_iconst (v := 0) hx hb dd_Checker_checkLimits_37 (by decide) ?_
      obtain ⟨hi, h⟩ := xp_g h
      refine al_h_26 C hP hi dd_Checker_checkLimits_38 ?_
      refine lv_aload_n hx hb dd_Checker_checkLimits_39 rfl (lv_at hl 0 rfl) ?_
      refine gf_h_Checker_24_second C hP dd_Checker_checkLimits_40 ?_
      refine lv_iconst (v := 0) hx hb dd_Checker_checkLimits_43 (by decide) ?_
      obtain ⟨hi, h⟩ := xp_g h
      refine al_h_27 C hP hi dd_Checker_checkLimits_44 ?_
      refine lv_icmp_gt (tgt := 52) hx hb dd_Checker_checkLimits_45 (by decide) (fun hc => ?_) (fun hc => ?_)
      · have h := xp_t hc h
        exact wj_Checker_checkLimits_52 htr C hne h hP hS (lv_sub hl [] rfl)
      · have h := xp_f hc h
        exact wj_Checker_checkLimits_48 htr C hne h hP hS (lv_sub hl [] rfl)
set_option maxHeartbeats 4000000 in
set_option maxRecDepth 100000 in
theorem ct_Checker_checkLimits {l : Launch} {D : va_G} {ad : Nat → Nat} {ca : Nat → ClassId} {ads : List Nat} (htr : l.stackTraces = false) (hok : xk_ok (kw_h ad ca) ads) {x1 : Int32} {u u' : xk_St} {r : (Unit ⊕ Nat)} (h : fm_Checker_checkLimits x1 u = some (r, u')) :
    ∀ sz, xk_Met l ⟨"ModuleHouse$Checker", "checkLimits", "(LModuleHouse$Row;I)V"⟩ (Cond.code ⟨"ModuleHouse$Checker", "checkLimits", "(LModuleHouse$Row;I)V"⟩ prog_2_method_7_code 3 none :: xk_gd) rm_Checker_checkLimits (xk_Pc D kx_cl (kx_ty ca) (kw_h ad ca) ads xk_F sz [.ref (ad 55), .ref (ad 24), .int x1] u) (xk_Qc D kx_cl (kw_h ad ca) ads (xo_v r) u') (xk_A ads sz) := by
  unfold fm_Checker_checkLimits at h
  refine xk_con (by decide) htr hok (Nat.le_of_ble_eq_true rfl) (fun p e s m below meth c ls C hne hl hP => ?_)
  have hx := C.1.1
  have hb := C.1.2.1
  have hS : va_S (xk_A ads s.heap.size) s.heap s.heap [] := va_S.rf
  have hl : lv_has ls 3 [(0, .ref (ad 55)), (1, .ref (ad 24)), (2, .int x1)] := hl
  refine lv_aload_n hx hb dd_Checker_checkLimits_0 rfl (lv_at hl 1 rfl) ?_
  refine gf_h_Checker_24_count C hP dd_Checker_checkLimits_1 ?_
  refine lv_iconst (v := 1) hx hb dd_Checker_checkLimits_4 (by decide) ?_
  refine lv_icmp_gt (tgt := 12) hx hb dd_Checker_checkLimits_5 (by decide) (fun hc => ?_) (fun hc => ?_)
  · have h := xp_t hc h
    refine lv_iconst (v := 0) hx hb dd_Checker_checkLimits_12 (by decide) ?_
    exact wj_Checker_checkLimits_13 htr C hne h hP hS (lv_sub hl [1, 2] rfl)
  · have h := xp_f hc h
    refine lv_iconst (v := 1) hx hb dd_Checker_checkLimits_8 (by decide) ?_
    refine lv_goto (tgt := 13) hx hb dd_Checker_checkLimits_9 (by decide) ?_
    exact wj_Checker_checkLimits_13 htr C hne h hP hS (lv_sub hl [1, 2] rfl)
abbrev rm_Checker_checkLimits__h55_29 : Room := { frames := 7, cells := 1, slots := 6, locals := 120 }
noncomputable def jb_Checker_checkLimits__h55_29_53 (s0 : Int32) (u : xk_St) : Option ((Unit ⊕ Nat) × xk_St) :=
  (xs_try (fm_Checker_need s0 u) fun _ u2 => some (.inl (()), u2))
noncomputable def jb_Checker_checkLimits__h55_29_48 (u : xk_St) : Option ((Unit ⊕ Nat) × xk_St) :=
  jb_Checker_checkLimits__h55_29_53 (1 : Int32) u
noncomputable def jb_Checker_checkLimits__h55_29_52 (u : xk_St) : Option ((Unit ⊕ Nat) × xk_St) :=
  jb_Checker_checkLimits__h55_29_53 (0 : Int32) u
noncomputable def jb_Checker_checkLimits__h55_29_13 (b2 : Int32) (s0 : Int32) (u : xk_St) : Option ((Unit ⊕ Nat) × xk_St) :=
  (xs_try (fm_Checker_need s0 u) fun _ u1 => if (u1.1 12) = (0 : Int32) then (jb_Checker_checkLimits__h55_29_48 u1) else ((if (0 : Int32) < 0 ∨ 65 ≤ (0 : Int32).toNatClampNeg then none else if b2 < (u1.2.2.1 19 (0 : Int32).toNatClampNeg) then (jb_Checker_checkLimits__h55_29_52 u1) else ((if (0 : Int32) < 0 ∨ 65 ≤ (0 : Int32).toNatClampNeg then none else if (0 : Int32) < 0 ∨ 65 ≤ (0 : Int32).toNatClampNeg then none else if (u1.2.2.1 20 (0 : Int32).toNatClampNeg) < (u1.2.2.1 19 (0 : Int32).toNatClampNeg) then (jb_Checker_checkLimits__h55_29_52 u1) else (jb_Checker_checkLimits__h55_29_48 u1))))))
noncomputable def fm_Checker_checkLimits__h55_29 (x1 : Int32) (u : xk_St) : Option ((Unit ⊕ Nat) × xk_St) :=
  if (1 : Int32) < (u.1 12) then (jb_Checker_checkLimits__h55_29_13 x1 (0 : Int32) u) else (jb_Checker_checkLimits__h55_29_13 x1 (1 : Int32) u)
set_option maxHeartbeats 4000000 in
set_option maxRecDepth 100000 in
theorem wj_Checker_checkLimits__h55_29_53 {p : Program} {l : Launch} {e : Env} {s : State} {m : MethodId} {args : Array Value} {below : List Frame} {meth : Method} {c : Code} {D : va_G} {ad : Nat → Nat} {ca : Nat → ClassId} {ads : List Nat} (htr : l.stackTraces = false) (C : xk_C D kx_cl (kx_ty ca) (kw_h ad ca) ads "ModuleHouse$Checker" prog_2_method_7_code 3 none p e s m args meth c) (hne : c.exceptionTable.isEmpty = true) {u' : xk_St} {r : (Unit ⊕ Nat)} {s0 : Int32} {u : xk_St} {H : Heap} {locs : List Loc} {ls : Array Slot} (h : jb_Checker_checkLimits__h55_29_53  s0 u = some (r, u')) (hP : va_P D kx_cl (kw_h ad ca u) H) (hS : va_S (xk_A ads s.heap.size) s.heap H locs) (hl : lv_has ls 3 []) : W p l e rm_Checker_checkLimits__h55_29 s m args below meth c H locs 0 0 (xk_MQ below (xk_Qc D kx_cl (kw_h ad ca) ads (xo_v r) u') args s (xk_A ads s.heap.size)) (F0 m 53 ls [.int s0]) := by
  have hx := C.1.1
  have hb := C.1.2.1
  have hok := C.2.2.1
  unfold jb_Checker_checkLimits__h55_29_53 at h
  rcases xp_try h with ⟨rx, u2, hq, h⟩ | ⟨kx, ux, hq, h⟩
  rotate_left
  · obtain ⟨rfl, rfl⟩ := xp_q h
    exact xk_up (xr_S (As := [.int s0]) (rest := []) C hP hS (ct_Checker_need htr hok hq) kq_Checker_60 ⟨rfl, rfl, Nat.le_of_ble_eq_true rfl, Nat.le_of_ble_eq_true rfl⟩ ⟨Nat.le_of_ble_eq_true rfl, Nat.le_of_ble_eq_true rfl⟩ hl.1 rfl rfl (Nat.le_of_ble_eq_true rfl) dd_Checker_checkLimits_53) hS hne C.2.2.2.2.2.2.1
  refine xk_goesV (xr_S (As := [.int s0]) (rest := []) C hP hS (ct_Checker_need htr hok hq) kq_Checker_60 ⟨rfl, rfl, Nat.le_of_ble_eq_true rfl, Nat.le_of_ble_eq_true rfl⟩ ⟨Nat.le_of_ble_eq_true rfl, Nat.le_of_ble_eq_true rfl⟩ hl.1 rfl rfl (Nat.le_of_ble_eq_true rfl) dd_Checker_checkLimits_53) hS (fun H locs hP hS => ?_)
  clear hq
  obtain ⟨rfl, rfl⟩ := xp_r h
  exact xr_vret C hP hS dd_Checker_checkLimits_56
set_option maxHeartbeats 4000000 in
set_option maxRecDepth 100000 in
theorem wj_Checker_checkLimits__h55_29_48 {p : Program} {l : Launch} {e : Env} {s : State} {m : MethodId} {args : Array Value} {below : List Frame} {meth : Method} {c : Code} {D : va_G} {ad : Nat → Nat} {ca : Nat → ClassId} {ads : List Nat} (htr : l.stackTraces = false) (C : xk_C D kx_cl (kx_ty ca) (kw_h ad ca) ads "ModuleHouse$Checker" prog_2_method_7_code 3 none p e s m args meth c) (hne : c.exceptionTable.isEmpty = true) {u' : xk_St} {r : (Unit ⊕ Nat)} {u : xk_St} {H : Heap} {locs : List Loc} {ls : Array Slot} (h : jb_Checker_checkLimits__h55_29_48   u = some (r, u')) (hP : va_P D kx_cl (kw_h ad ca u) H) (hS : va_S (xk_A ads s.heap.size) s.heap H locs) (hl : lv_has ls 3 []) : W p l e rm_Checker_checkLimits__h55_29 s m args below meth c H locs 0 0 (xk_MQ below (xk_Qc D kx_cl (kw_h ad ca) ads (xo_v r) u') args s (xk_A ads s.heap.size)) (F0 m 48 ls []) := by
  have hx := C.1.1
  have hb := C.1.2.1
  have hok := C.2.2.1
  unfold jb_Checker_checkLimits__h55_29_48 at h
  refine lv_iconst (v := 1) hx hb dd_Checker_checkLimits_48 (by decide) ?_
  refine lv_goto (tgt := 53) hx hb dd_Checker_checkLimits_49 (by decide) ?_
  exact wj_Checker_checkLimits__h55_29_53 htr C hne h hP hS (lv_sub hl [] rfl)
set_option maxHeartbeats 4000000 in
set_option maxRecDepth 100000 in
theorem wj_Checker_checkLimits__h55_29_52 {p : Program} {l : Launch} {e : Env} {s : State} {m : MethodId} {args : Array Value} {below : List Frame} {meth : Method} {c : Code} {D : va_G} {ad : Nat → Nat} {ca : Nat → ClassId} {ads : List Nat} (htr : l.stackTraces = false) (C : xk_C D kx_cl (kx_ty ca) (kw_h ad ca) ads "ModuleHouse$Checker" prog_2_method_7_code 3 none p e s m args meth c) (hne : c.exceptionTable.isEmpty = true) {u' : xk_St} {r : (Unit ⊕ Nat)} {u : xk_St} {H : Heap} {locs : List Loc} {ls : Array Slot} (h : jb_Checker_checkLimits__h55_29_52   u = some (r, u')) (hP : va_P D kx_cl (kw_h ad ca u) H) (hS : va_S (xk_A ads s.heap.size) s.heap H locs) (hl : lv_has ls 3 []) : W p l e rm_Checker_checkLimits__h55_29 s m args below meth c H locs 0 0 (xk_MQ below (xk_Qc D kx_cl (kw_h ad ca) ads (xo_v r) u') args s (xk_A ads s.heap.size)) (F0 m 52 ls []) := by
  have hx := C.1.1
  have hb := C.1.2.1
  have hok := C.2.2.1
  unfold jb_Checker_checkLimits__h55_29_52 at h
  refine lv_iconst (v := 0) hx hb dd_Checker_checkLimits_52 (by decide) ?_
  exact wj_Checker_checkLimits__h55_29_53 htr C hne h hP hS (lv_sub hl [] rfl)
set_option maxHeartbeats 4000000 in
set_option maxRecDepth 100000 in
theorem wj_Checker_checkLimits__h55_29_13 {p : Program} {l : Launch} {e : Env} {s : State} {m : MethodId} {args : Array Value} {below : List Frame} {meth : Method} {c : Code} {D : va_G} {ad : Nat → Nat} {ca : Nat → ClassId} {ads : List Nat} (htr : l.stackTraces = false) (C : xk_C D kx_cl (kx_ty ca) (kw_h ad ca) ads "ModuleHouse$Checker" prog_2_method_7_code 3 none p e s m args meth c) (hne : c.exceptionTable.isEmpty = true) {u' : xk_St} {r : (Unit ⊕ Nat)} {b2 : Int32} {s0 : Int32} {u : xk_St} {H : Heap} {locs : List Loc} {ls : Array Slot} (h : jb_Checker_checkLimits__h55_29_13  b2 s0 u = some (r, u')) (hP : va_P D kx_cl (kw_h ad ca u) H) (hS : va_S (xk_A ads s.heap.size) s.heap H locs) (hl : lv_has ls 3 [(1, .ref (ad 29)), (2, .int b2)]) : W p l e rm_Checker_checkLimits__h55_29 s m args below meth c H locs 0 0 (xk_MQ below (xk_Qc D kx_cl (kw_h ad ca) ads (xo_v r) u') args s (xk_A ads s.heap.size)) (F0 m 13 ls [.int s0]) := by
  have hx := C.1.1
  have hb := C.1.2.1
  have hok := C.2.2.1
  unfold jb_Checker_checkLimits__h55_29_13 at h
  rcases xp_try h with ⟨rx, u1, hq, h⟩ | ⟨kx, ux, hq, h⟩
  rotate_left
  · obtain ⟨rfl, rfl⟩ := xp_q h
    exact xk_up (xr_S (As := [.int s0]) (rest := []) C hP hS (ct_Checker_need htr hok hq) kq_Checker_60 ⟨rfl, rfl, Nat.le_of_ble_eq_true rfl, Nat.le_of_ble_eq_true rfl⟩ ⟨Nat.le_of_ble_eq_true rfl, Nat.le_of_ble_eq_true rfl⟩ hl.1 rfl rfl (Nat.le_of_ble_eq_true rfl) dd_Checker_checkLimits_13) hS hne C.2.2.2.2.2.2.1
  refine xk_goesV (xr_S (As := [.int s0]) (rest := []) C hP hS (ct_Checker_need htr hok hq) kq_Checker_60 ⟨rfl, rfl, Nat.le_of_ble_eq_true rfl, Nat.le_of_ble_eq_true rfl⟩ ⟨Nat.le_of_ble_eq_true rfl, Nat.le_of_ble_eq_true rfl⟩ hl.1 rfl rfl (Nat.le_of_ble_eq_true rfl) dd_Checker_checkLimits_13) hS (fun H locs hP hS => ?_)
  clear hq
  refine lv_aload_n hx hb dd_Checker_checkLimits_16 rfl (lv_at hl 0 rfl) ?_
  refine gf_h_Checker_29_count C hP dd_Checker_checkLimits_17 ?_
  refine lv_if_eq (tgt := 48) hx hb dd_Checker_checkLimits_20 (by decide) (fun hc => ?_) (fun hc => ?_)
  · have h := xp_t hc h
    exact wj_Checker_checkLimits__h55_29_48 htr C hne h hP hS (lv_sub hl [] rfl)
  · have h := xp_f hc h
    refine lv_aload_n hx hb dd_Checker_checkLimits_23 rfl (lv_at hl 0 rfl) ?_
    refine gf_h_Checker_29_first C hP dd_Checker_checkLimits_24 ?_
    refine lv_iconst (v := 0) hx hb dd_Checker_checkLimits_27 (by decide) ?_
    obtain ⟨hi, h⟩ := xp_g h
    refine al_h_31 C hP hi dd_Checker_checkLimits_28 ?_
    refine lv_iload_n hx hb dd_Checker_checkLimits_29 rfl (lv_at hl 1 rfl) ?_
    refine lv_icmp_gt (tgt := 52) hx hb dd_Checker_checkLimits_30 (by decide) (fun hc => ?_) (fun hc => ?_)
    · have h := xp_t hc h
      exact wj_Checker_checkLimits__h55_29_52 htr C hne h hP hS (lv_sub hl [] rfl)
    · have h := xp_f hc h
      refine lv_aload_n hx hb dd_Checker_checkLimits_33 rfl (lv_at hl 0 rfl) ?_
      refine gf_h_Checker_29_first C hP dd_Checker_checkLimits_34 ?_
      refine lv_iconst (v := 0) hx hb dd_Checker_checkLimits_37 (by decide) ?_
      obtain ⟨hi, h⟩ := xp_g h
      refine al_h_31 C hP hi dd_Checker_checkLimits_38 ?_
      refine lv_aload_n hx hb dd_Checker_checkLimits_39 rfl (lv_at hl 0 rfl) ?_
      refine gf_h_Checker_29_second C hP dd_Checker_checkLimits_40 ?_
      refine lv_iconst (v := 0) hx hb dd_Checker_checkLimits_43 (by decide) ?_
      obtain ⟨hi, h⟩ := xp_g h
      refine al_h_32 C hP hi dd_Checker_checkLimits_44 ?_
      refine lv_icmp_gt (tgt := 52) hx hb dd_Checker_checkLimits_45 (by decide) (fun hc => ?_) (fun hc => ?_)
      · have h := xp_t hc h
        exact wj_Checker_checkLimits__h55_29_52 htr C hne h hP hS (lv_sub hl [] rfl)
      · have h := xp_f hc h
        exact wj_Checker_checkLimits__h55_29_48 htr C hne h hP hS (lv_sub hl [] rfl)
set_option maxHeartbeats 4000000 in
set_option maxRecDepth 100000 in
theorem ct_Checker_checkLimits__h55_29 {l : Launch} {D : va_G} {ad : Nat → Nat} {ca : Nat → ClassId} {ads : List Nat} (htr : l.stackTraces = false) (hok : xk_ok (kw_h ad ca) ads) {x1 : Int32} {u u' : xk_St} {r : (Unit ⊕ Nat)} (h : fm_Checker_checkLimits__h55_29 x1 u = some (r, u')) :
    ∀ sz, xk_Met l ⟨"ModuleHouse$Checker", "checkLimits", "(LModuleHouse$Row;I)V"⟩ (Cond.code ⟨"ModuleHouse$Checker", "checkLimits", "(LModuleHouse$Row;I)V"⟩ prog_2_method_7_code 3 none :: xk_gd) rm_Checker_checkLimits__h55_29 (xk_Pc D kx_cl (kx_ty ca) (kw_h ad ca) ads xk_F sz [.ref (ad 55), .ref (ad 29), .int x1] u) (xk_Qc D kx_cl (kw_h ad ca) ads (xo_v r) u') (xk_A ads sz) := by
  unfold fm_Checker_checkLimits__h55_29 at h
  refine xk_con (by decide) htr hok (Nat.le_of_ble_eq_true rfl) (fun p e s m below meth c ls C hne hl hP => ?_)
  have hx := C.1.1
  have hb := C.1.2.1
  have hS : va_S (xk_A ads s.heap.size) s.heap s.heap [] := va_S.rf
  have hl : lv_has ls 3 [(0, .ref (ad 55)), (1, .ref (ad 29)), (2, .int x1)] := hl
  refine lv_aload_n hx hb dd_Checker_checkLimits_0 rfl (lv_at hl 1 rfl) ?_
  refine gf_h_Checker_29_count C hP dd_Checker_checkLimits_1 ?_
  refine lv_iconst (v := 1) hx hb dd_Checker_checkLimits_4 (by decide) ?_
  refine lv_icmp_gt (tgt := 12) hx hb dd_Checker_checkLimits_5 (by decide) (fun hc => ?_) (fun hc => ?_)
  · have h := xp_t hc h
    refine lv_iconst (v := 0) hx hb dd_Checker_checkLimits_12 (by decide) ?_
    exact wj_Checker_checkLimits__h55_29_13 htr C hne h hP hS (lv_sub hl [1, 2] rfl)
  · have h := xp_f hc h
    refine lv_iconst (v := 1) hx hb dd_Checker_checkLimits_8 (by decide) ?_
    refine lv_goto (tgt := 13) hx hb dd_Checker_checkLimits_9 (by decide) ?_
    exact wj_Checker_checkLimits__h55_29_13 htr C hne h hP hS (lv_sub hl [1, 2] rfl)
