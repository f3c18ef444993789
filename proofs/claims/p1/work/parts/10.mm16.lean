abbrev rm_Model_run : Room := { frames := 8, cells := 1, slots := 6, locals := 153 }
noncomputable def jb_Model_run_232 (fu : Nat) (k180 : Int32 → xk_St → Option (Unit × xk_St)) (b4 : Int32) (s0 : Int64) (s1 : Int32) (u : xk_St) : Option (Unit × xk_St) :=
  (if s1 < 0 ∨ 16 ≤ s1.toNatClampNeg then none else xs_let (xs_B u 4 s1.toNatClampNeg s0) fun u11 => xs_let (b4 + (1 : Int32)) fun a12 => k180 a12 u11)
noncomputable def jb_Model_run_180 (fu : Nat) : Nat → Int32 → xk_St → Option (Unit × xk_St)
  | 0 => fun _ _ => none
  | n + 1 => fun b4 u =>
    xs_let (jb_Model_run_180 fu  n) fun k180 =>
    if (u.1 31) ≤ b4 then ((xs_let (xs_I u 26 (0 : Int32)) fun u9 => xs_let (xs_I u9 27 (0 : Int32)) fun u10 => some ((()), u10))) else ((if b4 < 0 ∨ 19000 ≤ b4.toNatClampNeg then none else if (u.2.2.1 29 b4.toNatClampNeg) = (0 : Int32) then ((if b4 < 0 ∨ 19000 ≤ b4.toNatClampNeg then none else jb_Model_run_232 fu k180 b4 (u.2.2.2 3 b4.toNatClampNeg) b4 u)) else ((if b4 < 0 ∨ 19000 ≤ b4.toNatClampNeg then none else if (u.2.2.2 3 b4.toNatClampNeg) = (0 : Int64) then (jb_Model_run_232 fu k180 b4 (0 : Int64) b4 u) else (jb_Model_run_232 fu k180 b4 (1 : Int64) b4 u)))))
noncomputable def jb_Model_run_174 (fu : Nat) (s0 : Int32) (u : xk_St) : Option (Unit × xk_St) :=
  (xs_let (xs_I u 31 s0) fun u8 => jb_Model_run_180 fu fu (0 : Int32) u8)
noncomputable def jb_Model_run_149 (fu : Nat) (u : xk_St) : Option (Unit × xk_St) :=
  (xs_let (xs_I u 30 ((u.2.1 2).toInt32)) fun u7 => if (u7.1 29) = (0 : Int32) then (jb_Model_run_174 fu (u7.1 26) u7) else (jb_Model_run_174 fu (0 : Int32) u7))
noncomputable def jb_Model_run_34 (fu : Nat) : Nat → xk_St → Option (Unit × xk_St)
  | 0 => fun _ => none
  | n + 1 => fun  u =>
    xs_let (jb_Model_run_34 fu  n) fun k34 =>
    if (u.1 27) ≤ (0 : Int32) then (jb_Model_run_149 fu u) else (if (u.1 29) = (0 : Int32) then ((xs_let (xs_I u 23 (u.1 4)) fun u13 => xs_seq (fm_Model_instruction fu u13) fun _ u14 => if (32 : Int32) ≤ (u14.1 8) then (if (40 : Int32) ≤ (u14.1 8) then (if (65 : Int32) ≤ (u14.1 8) then (if (208 : Int32) ≤ (u14.1 8) then (if (251 : Int32) ≤ (u14.1 8) then ((xs_seq (fm_Model_doObjects fu u14) fun _ u15 => k34  u15)) else ((xs_seq (fm_Model_doReferences fu u14) fun _ u16 => k34  u16))) else ((xs_seq (fm_Model_doNumbers fu u14) fun _ u17 => k34  u17))) else ((xs_seq (fm_Model_doMemory fu u14) fun _ u18 => k34  u18))) else ((xs_seq (fm_Model_doNames u14) fun _ u19 => k34  u19))) else ((xs_seq (fm_Model_doWays fu u14) fun _ u20 => k34  u20)))) else (jb_Model_run_149 fu u))
noncomputable def fm_Model_run (fu : Nat) (x0 : Int32) (x1 : Int64) (u : xk_St) : Option (Unit × xk_St) :=
  (xs_let (xs_J u 2 x1) fun u1 => xs_let (xs_I u1 27 (0 : Int32)) fun u2 => xs_let (xs_I u2 28 (0 : Int32)) fun u3 => xs_let (xs_I u3 5 (u3.1 3)) fun u4 => xs_let (xs_I u4 6 (0 : Int32)) fun u5 => xs_seq (fm_Model_enter fu x0 (0 : Int32) u5) fun _ u6 => jb_Model_run_34 fu fu u6)
set_option maxHeartbeats 4000000 in
set_option maxRecDepth 100000 in
theorem wj_Model_run_232 {p : Program} {l : Launch} {e : Env} {s : State} {m : MethodId} {args : Array Value} {below : List Frame} {meth : Method} {c : Code} {D : va_G} {ad : Nat → Nat} {ca : Nat → ClassId} {ads : List Nat} {fu : Nat} (htr : l.stackTraces = false) (C : xk_C D kx_cl (kx_ty ca) (kw_m ad ca) ads "ModuleHouseModel" prog_14_method_111_code 5 none p e s m args meth c) (hne : c.exceptionTable.isEmpty = true) {u' : xk_St} {r : Unit} {k180 : Int32 → xk_St → Option (Unit × xk_St)} (hk180 : ∀ (c0 : Int32) (u : xk_St) (H : Heap) (locs : List Loc) (ls : Array Slot), k180 c0 u = some (r, u') → va_P D kx_cl (kw_m ad ca u) H → va_S (xk_A ads s.heap.size) s.heap H locs → lv_has ls 5 [(0, .ref (ad 0)), (4, .int c0)] → W p l e rm_Model_run s m args below meth c H locs 0 0 (xk_MQ below (xk_Qc D kx_cl (kw_m ad ca) ads (xo_v (.inl r)) u') args s (xk_A ads s.heap.size)) (F0 m 180 ls [])) {b4 : Int32} {s0 : Int64} {s1 : Int32} {u : xk_St} {H : Heap} {locs : List Loc} {ls : Array Slot} (h : jb_Model_run_232 fu k180 b4 s0 s1 u = some (r, u')) (hP : va_P D kx_cl (kw_m ad ca u) H) (hS : va_S (xk_A ads s.heap.size) s.heap H locs) (hl : lv_has ls 5 [(0, .ref (ad 0)), (4, .int b4)]) : W p l e rm_Model_run s m args below meth c H locs 0 0 (xk_MQ below (xk_Qc D kx_cl (kw_m ad ca) ads (xo_v (.inl r)) u') args s (xk_A ads s.heap.size)) (F0 m 232 ls [.long s0, .int s1, .ref (ad 42)]) := by
  have hx := C.1.1
  have hb := C.1.2.1
  have hok := C.2.2.1
  unfold jb_Model_run_232 at h
  obtain ⟨hi, h⟩ := xp_g h
  refine as_m_42 C hP hS hi dd_Model_run_232 (fun H locs hP hS => ?_)
  obtain ⟨u11, eu11, h⟩ := xp_let h
  rw [← eu11] at hP
  obtain ⟨a12, ea12, h⟩ := xp_let h
  refine lv_iinc (v := a12) (lv' := [(4, .int a12), (0, .ref (ad 0))]) hx hb dd_Model_run_233 hl (k := 1) rfl (by rw [ea12]; first | rfl | decide) (by decide) rfl (fun ls hl => ?_)
  refine lv_goto (tgt := 180) hx hb dd_Model_run_236 (by decide) ?_
  exact hk180 a12 u11 _ _ _ h hP hS (lv_sub hl [1, 0] rfl)
set_option maxHeartbeats 4000000 in
set_option maxRecDepth 100000 in
theorem wj_Model_run_180 {p : Program} {l : Launch} {e : Env} {s : State} {m : MethodId} {args : Array Value} {below : List Frame} {meth : Method} {c : Code} {D : va_G} {ad : Nat → Nat} {ca : Nat → ClassId} {ads : List Nat} {fu : Nat} (htr : l.stackTraces = false) (C : xk_C D kx_cl (kx_ty ca) (kw_m ad ca) ads "ModuleHouseModel" prog_14_method_111_code 5 none p e s m args meth c) (hne : c.exceptionTable.isEmpty = true) {u' : xk_St} {r : Unit} : ∀ {n : Nat} {b4 : Int32} {u : xk_St} {H : Heap} {locs : List Loc} {ls : Array Slot} (h : jb_Model_run_180 fu  n b4 u = some (r, u')) (hP : va_P D kx_cl (kw_m ad ca u) H) (hS : va_S (xk_A ads s.heap.size) s.heap H locs) (hl : lv_has ls 5 [(0, .ref (ad 0)), (4, .int b4)]), W p l e rm_Model_run s m args below meth c H locs 0 0 (xk_MQ below (xk_Qc D kx_cl (kw_m ad ca) ads (xo_v (.inl r)) u') args s (xk_A ads s.heap.size)) (F0 m 180 ls []) := by
  intro n
  have hx := C.1.1
  have hb := C.1.2.1
  have hok := C.2.2.1
  induction n with
  | zero =>
    intro _ u H locs ls h
    have h : none = some (r, u') := h
    cases h
  | succ n ih =>
    intro b4 u H locs ls h hP hS hl
    unfold jb_Model_run_180 at h
    obtain ⟨k180, ek180, h⟩ := xp_let h
    have hk180 : ∀ (c0 : Int32) (u : xk_St) (H : Heap) (locs : List Loc) (ls : Array Slot), k180 c0 u = some (r, u') → va_P D kx_cl (kw_m ad ca u) H → va_S (xk_A ads s.heap.size) s.heap H locs → lv_has ls 5 [(0, .ref (ad 0)), (4, .int c0)] → W p l e rm_Model_run s m args below meth c H locs 0 0 (xk_MQ below (xk_Qc D kx_cl (kw_m ad ca) ads (xo_v (.inl r)) u') args s (xk_A ads s.heap.size)) (F0 m 180 ls []) := by
      intro c0 u H locs ls h hP hS hl
      subst ek180
      exact ih h hP hS hl
    clear ih ek180
    refine lv_iload hx hb dd_Model_run_180 (lv_at hl 1 rfl) ?_
    refine lv_aload_n hx hb dd_Model_run_182 rfl (lv_at hl 0 rfl) ?_
    refine gf_m_Model_0_resultMany C hP dd_Model_run_183 ?_
    refine lv_icmp_ge (tgt := 239) hx hb dd_Model_run_186 (by decide) (fun hc => ?_) (fun hc => ?_)
    · have h := xp_t hc h
      refine lv_aload_n hx hb dd_Model_run_239 rfl (lv_at hl 0 rfl) ?_
      refine lv_iconst (v := 0) hx hb dd_Model_run_240 (by decide) ?_
      refine pf_m_Model_0_top C hP hS dd_Model_run_241 (fun H locs hP hS => ?_)
      obtain ⟨u9, eu9, h⟩ := xp_let h
      rw [← eu9] at hP
      refine lv_aload_n hx hb dd_Model_run_244 rfl (lv_at hl 0 rfl) ?_
      refine lv_iconst (v := 0) hx hb dd_Model_run_245 (by decide) ?_
      refine pf_m_Model_0_calls C hP hS dd_Model_run_246 (fun H locs hP hS => ?_)
      obtain ⟨u10, eu10, h⟩ := xp_let h
      rw [← eu10] at hP
      obtain ⟨rfl, rfl⟩ := xp_r h
      exact xr_vret C hP hS dd_Model_run_249
    · have h := xp_f hc h
      refine lv_aload_n hx hb dd_Model_run_189 rfl (lv_at hl 0 rfl) ?_
      refine gf_m_Model_0_results C hP dd_Model_run_190 ?_
      refine lv_iload hx hb dd_Model_run_193 (lv_at hl 1 rfl) ?_
      refine lv_aload_n hx hb dd_Model_run_195 rfl (lv_at hl 0 rfl) ?_
      refine gf_m_Model_0_refers C hP dd_Model_run_196 ?_
      refine lv_iload hx hb dd_Model_run_199 (lv_at hl 1 rfl) ?_
      obtain ⟨hi, h⟩ := xp_g h
      refine al_m_34 C hP hi dd_Model_run_201 ?_
      refine lv_if_ne (tgt := 215) hx hb dd_Model_run_202 (by decide) (fun hc => ?_) (fun hc => ?_)
      · have h := xp_f hc h
        refine lv_aload_n hx hb dd_Model_run_215 rfl (lv_at hl 0 rfl) ?_
        refine gf_m_Model_0_values C hP dd_Model_run_216 ?_
        refine lv_iload hx hb dd_Model_run_219 (lv_at hl 1 rfl) ?_
        obtain ⟨hi, h⟩ := xp_g h
        refine al_m_33 C hP hi dd_Model_run_221 ?_
        refine lv_lconst (v := 0) hx hb dd_Model_run_222 (by decide) ?_
        refine xr_lc_ne (tgt := 231) hx hb dd_Model_run_223 dd_Model_run_224 (by decide) (fun hc => ?_) (fun hc => ?_)
        · have h := xp_f hc h
          refine lv_lconst (v := 1) hx hb dd_Model_run_231 (by decide) ?_
          exact wj_Model_run_232 htr C hne hk180 h hP hS (lv_sub hl [0, 1] rfl)
        · have h := xp_t hc h
          refine lv_lconst (v := 0) hx hb dd_Model_run_227 (by decide) ?_
          refine lv_goto (tgt := 232) hx hb dd_Model_run_228 (by decide) ?_
          exact wj_Model_run_232 htr C hne hk180 h hP hS (lv_sub hl [0, 1] rfl)
      · have h := xp_t hc h
        refine lv_aload_n hx hb dd_Model_run_205 rfl (lv_at hl 0 rfl) ?_
        refine gf_m_Model_0_values C hP dd_Model_run_206 ?_
        refine lv_iload hx hb dd_Model_run_209 (lv_at hl 1 rfl) ?_
        obtain ⟨hi, h⟩ := xp_g h
        refine al_m_33 C hP hi dd_Model_run_211 ?_
        refine lv_goto (tgt := 232) hx hb dd_Model_run_212 (by decide) ?_
        exact wj_Model_run_232 htr C hne hk180 h hP hS (lv_sub hl [0, 1] rfl)
set_option maxHeartbeats 4000000 in
set_option maxRecDepth 100000 in
theorem wj_Model_run_174 {p : Program} {l : Launch} {e : Env} {s : State} {m : MethodId} {args : Array Value} {below : List Frame} {meth : Method} {c : Code} {D : va_G} {ad : Nat → Nat} {ca : Nat → ClassId} {ads : List Nat} {fu : Nat} (htr : l.stackTraces = false) (C : xk_C D kx_cl (kx_ty ca) (kw_m ad ca) ads "ModuleHouseModel" prog_14_method_111_code 5 none p e s m args meth c) (hne : c.exceptionTable.isEmpty = true) {u' : xk_St} {r : Unit} {s0 : Int32} {u : xk_St} {H : Heap} {locs : List Loc} {ls : Array Slot} (h : jb_Model_run_174 fu  s0 u = some (r, u')) (hP : va_P D kx_cl (kw_m ad ca u) H) (hS : va_S (xk_A ads s.heap.size) s.heap H locs) (hl : lv_has ls 5 [(0, .ref (ad 0))]) : W p l e rm_Model_run s m args below meth c H locs 0 0 (xk_MQ below (xk_Qc D kx_cl (kw_m ad ca) ads (xo_v (.inl r)) u') args s (xk_A ads s.heap.size)) (F0 m 174 ls [.int s0, .ref (ad 0)]) := by
  have hx := C.1.1
  have hb := C.1.2.1
  have hok := C.2.2.1
  unfold jb_Model_run_174 at h
  refine pf_m_Model_0_resultMany C hP hS dd_Model_run_174 (fun H locs hP hS => ?_)
  obtain ⟨u8, eu8, h⟩ := xp_let h
  rw [← eu8] at hP
  refine lv_iconst (v := 0) hx hb dd_Model_run_177 (by decide) ?_
  refine lv_istore (lv' := [(4, .int (0 : Int32)), (0, .ref (ad 0))]) hx hb dd_Model_run_178 hl (by decide) rfl (fun ls hl => ?_)
  exact wj_Model_run_180 htr C hne h hP hS (lv_sub hl [1, 0] rfl)
set_option maxHeartbeats 4000000 in
set_option maxRecDepth 100000 in
theorem wj_Model_run_149 {p : Program} {l : Launch} {e : Env} {s : State} {m : MethodId} {args : Array Value} {below : List Frame} {meth : Method} {c : Code} {D : va_G} {ad : Nat → Nat} {ca : Nat → ClassId} {ads : List Nat} {fu : Nat} (htr : l.stackTraces = false) (C : xk_C D kx_cl (kx_ty ca) (kw_m ad ca) ads "ModuleHouseModel" prog_14_method_111_code 5 none p e s m args meth c) (hne : c.exceptionTable.isEmpty = true) {u' : xk_St} {r : Unit} {u : xk_St} {H : Heap} {locs : List Loc} {ls : Array Slot} (h : jb_Model_run_149 fu   u = some (r, u')) (hP : va_P D kx_cl (kw_m ad ca u) H) (hS : va_S (xk_A ads s.heap.size) s.heap H locs) (hl : lv_has ls 5 [(0, .ref (ad 0))]) : W p l e rm_Model_run s m args below meth c H locs 0 0 (xk_MQ below (xk_Qc D kx_cl (kw_m ad ca) ads (xo_v (.inl r)) u') args s (xk_A ads s.heap.size)) (F0 m 149 ls []) := by
  have hx := C.1.1
  have hb := C.1.2.1
  have hok := C.2.2.1
  unfold jb_Model_run_149 at h
  refine lv_aload_n hx hb dd_Model_run_149 rfl (lv_at hl 0 rfl) ?_
  refine lv_aload_n hx hb dd_Model_run_150 rfl (lv_at hl 0 rfl) ?_
  refine gf_m_Model_0_turnsLeft C hP dd_Model_run_151 ?_
  refine lv_l2i hx hb dd_Model_run_154 rfl ?_
  refine pf_m_Model_0_turnsOver C hP hS dd_Model_run_155 (fun H locs hP hS => ?_)
  obtain ⟨u7, eu7, h⟩ := xp_let h
  rw [← eu7] at hP
  refine lv_aload_n hx hb dd_Model_run_158 rfl (lv_at hl 0 rfl) ?_
  refine lv_aload_n hx hb dd_Model_run_159 rfl (lv_at hl 0 rfl) ?_
  refine gf_m_Model_0_trap C hP dd_Model_run_160 ?_
  refine lv_if_ne (tgt := 173) hx hb dd_Model_run_163 (by decide) (fun hc => ?_) (fun hc => ?_)
  · have h := xp_f hc h
    refine lv_iconst (v := 0) hx hb dd_Model_run_173 (by decide) ?_
    exact wj_Model_run_174 htr C hne h hP hS (lv_sub hl [0] rfl)
  · have h := xp_t hc h
    refine lv_aload_n hx hb dd_Model_run_166 rfl (lv_at hl 0 rfl) ?_
    refine gf_m_Model_0_top C hP dd_Model_run_167 ?_
    refine lv_goto (tgt := 174) hx hb dd_Model_run_170 (by decide) ?_
    exact wj_Model_run_174 htr C hne h hP hS (lv_sub hl [0] rfl)
set_option maxHeartbeats 4000000 in
set_option maxRecDepth 100000 in
theorem wj_Model_run_34 {p : Program} {l : Launch} {e : Env} {s : State} {m : MethodId} {args : Array Value} {below : List Frame} {meth : Method} {c : Code} {D : va_G} {ad : Nat → Nat} {ca : Nat → ClassId} {ads : List Nat} {fu : Nat} (htr : l.stackTraces = false) (C : xk_C D kx_cl (kx_ty ca) (kw_m ad ca) ads "ModuleHouseModel" prog_14_method_111_code 5 none p e s m args meth c) (hne : c.exceptionTable.isEmpty = true) {u' : xk_St} {r : Unit} : ∀ {n : Nat} {u : xk_St} {H : Heap} {locs : List Loc} {ls : Array Slot} (h : jb_Model_run_34 fu  n  u = some (r, u')) (hP : va_P D kx_cl (kw_m ad ca u) H) (hS : va_S (xk_A ads s.heap.size) s.heap H locs) (hl : lv_has ls 5 [(0, .ref (ad 0))]), W p l e rm_Model_run s m args below meth c H locs 0 0 (xk_MQ below (xk_Qc D kx_cl (kw_m ad ca) ads (xo_v (.inl r)) u') args s (xk_A ads s.heap.size)) (F0 m 34 ls []) := by
  intro n
  have hx := C.1.1
  have hb := C.1.2.1
  have hok := C.2.2.1
  induction n with
  | zero =>
    intro  u H locs ls h
    have h : none = some (r, u') := h
    cases h
  | succ n ih =>
    intro  u H locs ls h hP hS hl
    unfold jb_Model_run_34 at h
    obtain ⟨k34, ek34, h⟩ := xp_let h
    have hk34 : ∀ (u : xk_St) (H : Heap) (locs : List Loc) (ls : Array Slot), k34  u = some (r, u') → va_P D kx_cl (kw_m ad ca u) H → va_S (xk_A ads s.heap.size) s.heap H locs → lv_has ls 5 [(0, .ref (ad 0))] → W p l e rm_Model_run s m args below meth c H locs 0 0 (xk_MQ below (xk_Qc D kx_cl (kw_m ad ca) ads (xo_v (.inl r)) u') args s (xk_A ads s.heap.size)) (F0 m 34 ls []) := by
      intro  u H locs ls h hP hS hl
      subst ek34
      exact ih h hP hS hl
    clear ih ek34
    refine lv_aload_n hx hb dd_Model_run_34 rfl (lv_at hl 0 rfl) ?_
    refine gf_m_Model_0_calls C hP dd_Model_run_35 ?_
    refine lv_if_le (tgt := 149) hx hb dd_Model_run_38 (by decide) (fun hc => ?_) (fun hc => ?_)
    · have h := xp_t hc h
      exact wj_Model_run_149 htr C hne h hP hS (lv_sub hl [0] rfl)
    · have h := xp_f hc h
      refine lv_aload_n hx hb dd_Model_run_41 rfl (lv_at hl 0 rfl) ?_
      refine gf_m_Model_0_trap C hP dd_Model_run_42 ?_
      refine lv_if_ne (tgt := 149) hx hb dd_Model_run_45 (by decide) (fun hc => ?_) (fun hc => ?_)
      · have h := xp_f hc h
        exact wj_Model_run_149 htr C hne h hP hS (lv_sub hl [0] rfl)
      · have h := xp_t hc h
        refine lv_aload_n hx hb dd_Model_run_48 rfl (lv_at hl 0 rfl) ?_
        refine lv_aload_n hx hb dd_Model_run_49 rfl (lv_at hl 0 rfl) ?_
        refine gf_m_Model_0_at C hP dd_Model_run_50 ?_
        refine pf_m_Model_0_here C hP hS dd_Model_run_53 (fun H locs hP hS => ?_)
        obtain ⟨u13, eu13, h⟩ := xp_let h
        rw [← eu13] at hP
        refine lv_aload_n hx hb dd_Model_run_56 rfl (lv_at hl 0 rfl) ?_
        obtain ⟨rx, u14, hq, h⟩ := xp_seq h
        refine xk_goesV (xr_V (As := []) (rest := []) C hP hS (ct_Model_instruction htr hok hq) kq_Model_381 0 11 rfl rfl ⟨rfl, rfl, Nat.le_of_ble_eq_true rfl, Nat.le_of_ble_eq_true rfl⟩ ⟨Nat.le_of_ble_eq_true rfl, Nat.le_of_ble_eq_true rfl⟩ hl.1 rfl rfl (Nat.le_of_ble_eq_true rfl) dd_Model_run_57) hS (fun H locs hP hS => ?_)
        clear hq
        refine lv_aload_n hx hb dd_Model_run_60 rfl (lv_at hl 0 rfl) ?_
        refine gf_m_Model_0_op C hP dd_Model_run_61 ?_
        refine lv_bipush (v := 32) hx hb dd_Model_run_64 (by decide) ?_
        refine lv_icmp_ge (tgt := 76) hx hb dd_Model_run_66 (by decide) (fun hc => ?_) (fun hc => ?_)
        · have h := xp_t hc h
          refine lv_aload_n hx hb dd_Model_run_76 rfl (lv_at hl 0 rfl) ?_
          refine gf_m_Model_0_op C hP dd_Model_run_77 ?_
          refine lv_bipush (v := 40) hx hb dd_Model_run_80 (by decide) ?_
          refine lv_icmp_ge (tgt := 92) hx hb dd_Model_run_82 (by decide) (fun hc => ?_) (fun hc => ?_)
          · have h := xp_t hc h
            refine lv_aload_n hx hb dd_Model_run_92 rfl (lv_at hl 0 rfl) ?_
            refine gf_m_Model_0_op C hP dd_Model_run_93 ?_
            refine lv_bipush (v := 65) hx hb dd_Model_run_96 (by decide) ?_
            refine lv_icmp_ge (tgt := 108) hx hb dd_Model_run_98 (by decide) (fun hc => ?_) (fun hc => ?_)
            · have h := xp_t hc h
              refine lv_aload_n hx hb dd_Model_run_108 rfl (lv_at hl 0 rfl) ?_
              refine gf_m_Model_0_op C hP dd_Model_run_109 ?_
              refine lv_sipush (v := 208) hx hb dd_Model_run_112 (by decide) ?_
              refine lv_icmp_ge (tgt := 125) hx hb dd_Model_run_115 (by decide) (fun hc => ?_) (fun hc => ?_)
              · have h := xp_t hc h
                refine lv_aload_n hx hb dd_Model_run_125 rfl (lv_at hl 0 rfl) ?_
                refine gf_m_Model_0_op C hP dd_Model_run_126 ?_
                refine lv_sipush (v := 251) hx hb dd_Model_run_129 (by decide) ?_
                refine lv_icmp_ge (tgt := 142) hx hb dd_Model_run_132 (by decide) (fun hc => ?_) (fun hc => ?_)
                · have h := xp_t hc h
                  refine lv_aload_n hx hb dd_Model_run_142 rfl (lv_at hl 0 rfl) ?_
                  obtain ⟨rx, u15, hq, h⟩ := xp_seq h
                  refine xk_goesV (xr_V (As := []) (rest := []) C hP hS (ct_Model_doObjects htr hok hq) kq_Model_716 0 11 rfl rfl ⟨rfl, rfl, Nat.le_of_ble_eq_true rfl, Nat.le_of_ble_eq_true rfl⟩ ⟨Nat.le_of_ble_eq_true rfl, Nat.le_of_ble_eq_true rfl⟩ hl.1 rfl rfl (Nat.le_of_ble_eq_true rfl) dd_Model_run_143) hS (fun H locs hP hS => ?_)
                  clear hq
                  refine lv_goto (tgt := 34) hx hb dd_Model_run_146 (by decide) ?_
                  exact hk34  u15 _ _ _ h hP hS (lv_sub hl [0] rfl)
                · have h := xp_f hc h
                  refine lv_aload_n hx hb dd_Model_run_135 rfl (lv_at hl 0 rfl) ?_
                  obtain ⟨rx, u16, hq, h⟩ := xp_seq h
                  refine xk_goesV (xr_V (As := []) (rest := []) C hP hS (ct_Model_doReferences htr hok hq) kq_Model_713 0 11 rfl rfl ⟨rfl, rfl, Nat.le_of_ble_eq_true rfl, Nat.le_of_ble_eq_true rfl⟩ ⟨Nat.le_of_ble_eq_true rfl, Nat.le_of_ble_eq_true rfl⟩ hl.1 rfl rfl (Nat.le_of_ble_eq_true rfl) dd_Model_run_136) hS (fun H locs hP hS => ?_)
                  clear hq
                  refine lv_goto (tgt := 34) hx hb dd_Model_run_139 (by decide) ?_
                  exact hk34  u16 _ _ _ h hP hS (lv_sub hl [0] rfl)
              · have h := xp_f hc h
                refine lv_aload_n hx hb dd_Model_run_118 rfl (lv_at hl 0 rfl) ?_
                obtain ⟨rx, u17, hq, h⟩ := xp_seq h
                refine xk_goesV (xr_V (As := []) (rest := []) C hP hS (ct_Model_doNumbers htr hok hq) kq_Model_710 0 11 rfl rfl ⟨rfl, rfl, Nat.le_of_ble_eq_true rfl, Nat.le_of_ble_eq_true rfl⟩ ⟨Nat.le_of_ble_eq_true rfl, Nat.le_of_ble_eq_true rfl⟩ hl.1 rfl rfl (Nat.le_of_ble_eq_true rfl) dd_Model_run_119) hS (fun H locs hP hS => ?_)
                clear hq
                refine lv_goto (tgt := 34) hx hb dd_Model_run_122 (by decide) ?_
                exact hk34  u17 _ _ _ h hP hS (lv_sub hl [0] rfl)
            · have h := xp_f hc h
              refine lv_aload_n hx hb dd_Model_run_101 rfl (lv_at hl 0 rfl) ?_
              obtain ⟨rx, u18, hq, h⟩ := xp_seq h
              refine xk_goesV (xr_V (As := []) (rest := []) C hP hS (ct_Model_doMemory htr hok hq) kq_Model_707 0 11 rfl rfl ⟨rfl, rfl, Nat.le_of_ble_eq_true rfl, Nat.le_of_ble_eq_true rfl⟩ ⟨Nat.le_of_ble_eq_true rfl, Nat.le_of_ble_eq_true rfl⟩ hl.1 rfl rfl (Nat.le_of_ble_eq_true rfl) dd_Model_run_102) hS (fun H locs hP hS => ?_)
              clear hq
              refine lv_goto (tgt := 34) hx hb dd_Model_run_105 (by decide) ?_
              exact hk34  u18 _ _ _ h hP hS (lv_sub hl [0] rfl)
          · have h := xp_f hc h
            refine lv_aload_n hx hb dd_Model_run_85 rfl (lv_at hl 0 rfl) ?_
            obtain ⟨rx, u19, hq, h⟩ := xp_seq h
            refine xk_goesV (xr_V (As := []) (rest := []) C hP hS (ct_Model_doNames htr hok hq) kq_Model_704 0 11 rfl rfl ⟨rfl, rfl, Nat.le_of_ble_eq_true rfl, Nat.le_of_ble_eq_true rfl⟩ ⟨Nat.le_of_ble_eq_true rfl, Nat.le_of_ble_eq_true rfl⟩ hl.1 rfl rfl (Nat.le_of_ble_eq_true rfl) dd_Model_run_86) hS (fun H locs hP hS => ?_)
            clear hq
            refine lv_goto (tgt := 34) hx hb dd_Model_run_89 (by decide) ?_
            exact hk34  u19 _ _ _ h hP hS (lv_sub hl [0] rfl)
        · have h := xp_f hc h
          refine lv_aload_n hx hb dd_Model_run_69 rfl (lv_at hl 0 rfl) ?_
          obtain ⟨rx, u20, hq, h⟩ := xp_seq h
          refine xk_goesV (xr_V (As := []) (rest := []) C hP hS (ct_Model_doWays htr hok hq) kq_Model_701 0 11 rfl rfl ⟨rfl, rfl, Nat.le_of_ble_eq_true rfl, Nat.le_of_ble_eq_true rfl⟩ ⟨Nat.le_of_ble_eq_true rfl, Nat.le_of_ble_eq_true rfl⟩ hl.1 rfl rfl (Nat.le_of_ble_eq_true rfl) dd_Model_run_70) hS (fun H locs hP hS => ?_)
          clear hq
          refine lv_goto (tgt := 34) hx hb dd_Model_run_73 (by decide) ?_
          exact hk34  u20 _ _ _ h hP hS (lv_sub hl [0] rfl)
set_option maxHeartbeats 4000000 in
set_option maxRecDepth 100000 in
theorem ct_Model_run {l : Launch} {D : va_G} {ad : Nat → Nat} {ca : Nat → ClassId} {ads : List Nat} (htr : l.stackTraces = false) (hok : xk_ok (kw_m ad ca) ads) {fu : Nat} {x0 : Int32} {x1 : Int64} {u u' : xk_St} {r : Unit} (h : fm_Model_run fu x0 x1 u = some (r, u')) :
    ∀ sz, xk_Met l ⟨"ModuleHouseModel", "run", "(IJ)V"⟩ (Cond.code ⟨"ModuleHouseModel", "run", "(IJ)V"⟩ prog_14_method_111_code 5 none :: xk_gd) rm_Model_run (xk_Pc D kx_cl (kx_ty ca) (kw_m ad ca) ads xk_F sz [.ref (ad 0), .int x0, .long x1] u) (xk_Qc D kx_cl (kw_m ad ca) ads (xo_v (.inl r)) u') (xk_A ads sz) := by
  unfold fm_Model_run at h
  refine xk_con (by decide) htr hok (Nat.le_of_ble_eq_true rfl) (fun p e s m below meth c ls C hne hl hP => ?_)
  have hx := C.1.1
  have hb := C.1.2.1
  have hS : va_S (xk_A ads s.heap.size) s.heap s.heap [] := va_S.rf
  have hl : lv_has ls 5 [(0, .ref (ad 0)), (1, .int x0), (2, .long x1)] := hl
  refine lv_aload_n hx hb dd_Model_run_0 rfl (lv_at hl 0 rfl) ?_
  refine lv_lload_n hx hb dd_Model_run_1 rfl (lv_at hl 2 rfl) ?_
  refine pf_m_Model_0_turnsLeft C hP hS dd_Model_run_2 (fun H locs hP hS => ?_)
  obtain ⟨u1, eu1, h⟩ := xp_let h
  rw [← eu1] at hP
  refine lv_aload_n hx hb dd_Model_run_5 rfl (lv_at hl 0 rfl) ?_
  refine lv_iconst (v := 0) hx hb dd_Model_run_6 (by decide) ?_
  refine pf_m_Model_0_calls C hP hS dd_Model_run_7 (fun H locs hP hS => ?_)
  obtain ⟨u2, eu2, h⟩ := xp_let h
  rw [← eu2] at hP
  refine lv_aload_n hx hb dd_Model_run_10 rfl (lv_at hl 0 rfl) ?_
  refine lv_iconst (v := 0) hx hb dd_Model_run_11 (by decide) ?_
  refine pf_m_Model_0_ways C hP hS dd_Model_run_12 (fun H locs hP hS => ?_)
  obtain ⟨u3, eu3, h⟩ := xp_let h
  rw [← eu3] at hP
  refine lv_aload_n hx hb dd_Model_run_15 rfl (lv_at hl 0 rfl) ?_
  refine lv_aload_n hx hb dd_Model_run_16 rfl (lv_at hl 0 rfl) ?_
  refine gf_m_Model_0_codeMany C hP dd_Model_run_17 ?_
  refine pf_m_Model_0_limit C hP hS dd_Model_run_20 (fun H locs hP hS => ?_)
  obtain ⟨u4, eu4, h⟩ := xp_let h
  rw [← eu4] at hP
  refine lv_aload_n hx hb dd_Model_run_23 rfl (lv_at hl 0 rfl) ?_
  refine lv_iconst (v := 0) hx hb dd_Model_run_24 (by decide) ?_
  refine pf_m_Model_0_bad C hP hS dd_Model_run_25 (fun H locs hP hS => ?_)
  obtain ⟨u5, eu5, h⟩ := xp_let h
  rw [← eu5] at hP
  refine lv_aload_n hx hb dd_Model_run_28 rfl (lv_at hl 0 rfl) ?_
  refine lv_iload_n hx hb dd_Model_run_29 rfl (lv_at hl 1 rfl) ?_
  refine lv_iconst (v := 0) hx hb dd_Model_run_30 (by decide) ?_
  obtain ⟨rx, u6, hq, h⟩ := xp_seq h
  refine xk_goesV (xr_V (As := [.int x0, .int (0 : Int32)]) (rest := []) C hP hS (ct_Model_enter htr hok hq) kq_Model_698 0 11 rfl rfl ⟨rfl, rfl, Nat.le_of_ble_eq_true rfl, Nat.le_of_ble_eq_true rfl⟩ ⟨Nat.le_of_ble_eq_true rfl, Nat.le_of_ble_eq_true rfl⟩ hl.1 rfl rfl (Nat.le_of_ble_eq_true rfl) dd_Model_run_31) hS (fun H locs hP hS => ?_)
  clear hq
  exact wj_Model_run_34 htr C hne h hP hS (lv_sub hl [0] rfl)
abbrev rm_Model_instance : Room := { frames := 9, cells := 1, slots := 6, locals := 177 }
noncomputable def jb_Model_instance_288 (fu : Nat) (u : xk_St) : Option (Unit × xk_St) :=
  if (u.1 29) = (0 : Int32) then (if (u.1 20) < (0 : Int32) then (some ((()), u)) else ((xs_seq (fm_Model_run fu (u.1 20) (1000 : Int64) u) fun _ u7 => some ((()), u7)))) else (some ((()), u))
noncomputable def jb_Model_instance_282 (fu : Nat) (k187 : Int32 → Int32 → xk_St → Option (Unit × xk_St)) (b1 : Int32) (b2 : Int32) (u : xk_St) : Option (Unit × xk_St) :=
  (xs_let (b2 + (1 : Int32)) fun a12 => k187 b1 a12 u)
noncomputable def jb_Model_instance_243 (fu : Nat) (k187 : Int32 → Int32 → xk_St → Option (Unit × xk_St)) : Nat → Int32 → Int32 → Int64 → Int64 → Int64 → xk_St → Option (Unit × xk_St)
  | 0 => fun _ _ _ _ _ _ => none
  | n + 1 => fun b1 b2 b3 b5 b7 u =>
    xs_let (jb_Model_instance_243 fu k187 n) fun k243 =>
    if b5 ≤ b7 then (jb_Model_instance_282 fu k187 b1 b2 u) else (if (u.1 29) = (0 : Int32) then ((xs_seq (fm_Model_one u) fun a13 u14 => if ((b3 + b7).toInt32) < 0 ∨ 65536 ≤ ((b3 + b7).toInt32).toNatClampNeg then none else xs_let (xs_A u14 27 ((b3 + b7).toInt32).toNatClampNeg (vp_nar .byte (a13.toInt8.toInt32))) fun u15 => xs_let (b7 + (1 : Int64)) fun a16 => k243 b1 b2 b3 b5 a16 u15)) else (jb_Model_instance_282 fu k187 b1 b2 u))
noncomputable def jb_Model_instance_240 (fu : Nat) (k187 : Int32 → Int32 → xk_St → Option (Unit × xk_St)) (b1 : Int32) (b2 : Int32) (b3 : Int64) (b5 : Int64) (u : xk_St) : Option (Unit × xk_St) :=
  jb_Model_instance_243 fu k187 fu b1 b2 b3 b5 (0 : Int64) u
noncomputable def jb_Model_instance_187 (fu : Nat) : Nat → Int32 → Int32 → xk_St → Option (Unit × xk_St)
  | 0 => fun _ _ _ => none
  | n + 1 => fun b1 b2 u =>
    xs_let (jb_Model_instance_187 fu  n) fun k187 =>
    if b1 ≤ b2 then (jb_Model_instance_288 fu u) else (if (u.1 29) = (0 : Int32) then ((xs_seq (fm_Model_place fu u) fun _ u8 => xs_let ((u8.2.1 0) &&& (4294967295 : Int64)) fun a9 => xs_seq (fm_Model_number fu u8) fun a10 u11 => if (a9 + a10) ≤ ((4096 : Int64) * ((u11.1 16).toInt64)) then (jb_Model_instance_240 fu k187 b1 b2 a9 a10 u11) else ((xs_let (xs_I u11 29 (2 : Int32)) fun u17 => jb_Model_instance_240 fu k187 b1 b2 a9 a10 u17)))) else (jb_Model_instance_288 fu u))
noncomputable def jb_Model_instance_184 (fu : Nat) (s0 : Int32) (u : xk_St) : Option (Unit × xk_St) :=
  jb_Model_instance_187 fu fu s0 (0 : Int32) u
noncomputable def jb_Model_instance_167 (fu : Nat) (u : xk_St) : Option (Unit × xk_St) :=
  if (u.1 29) = (0 : Int32) then ((xs_seq (fm_Model_rowOf fu (11 : Int32) u) fun a18 u19 => jb_Model_instance_184 fu a18 u19)) else (jb_Model_instance_184 fu (0 : Int32) u)
noncomputable def jb_Model_instance_161 (fu : Nat) (k70 : Int32 → Int32 → xk_St → Option (Unit × xk_St)) (b1 : Int32) (b2 : Int32) (u : xk_St) : Option (Unit × xk_St) :=
  (xs_let (b2 + (1 : Int32)) fun a24 => k70 b1 a24 u)
noncomputable def jb_Model_instance_122 (fu : Nat) (k70 : Int32 → Int32 → xk_St → Option (Unit × xk_St)) : Nat → Int32 → Int32 → Int64 → Int64 → Int64 → xk_St → Option (Unit × xk_St)
  | 0 => fun _ _ _ _ _ _ => none
  | n + 1 => fun b1 b2 b3 b5 b7 u =>
    xs_let (jb_Model_instance_122 fu k70 n) fun k122 =>
    if b5 ≤ b7 then (jb_Model_instance_161 fu k70 b1 b2 u) else (if (u.1 29) = (0 : Int32) then ((xs_seq (fm_Model_number fu u) fun a25 u26 => if ((b3 + b7).toInt32) < 0 ∨ 64 ≤ ((b3 + b7).toInt32).toNatClampNeg then none else xs_let (xs_A u26 28 ((b3 + b7).toInt32).toNatClampNeg (a25.toInt32)) fun u27 => xs_let (b7 + (1 : Int64)) fun a28 => k122 b1 b2 b3 b5 a28 u27)) else (jb_Model_instance_161 fu k70 b1 b2 u))
noncomputable def jb_Model_instance_119 (fu : Nat) (k70 : Int32 → Int32 → xk_St → Option (Unit × xk_St)) (b1 : Int32) (b2 : Int32) (b3 : Int64) (b5 : Int64) (u : xk_St) : Option (Unit × xk_St) :=
  jb_Model_instance_122 fu k70 fu b1 b2 b3 b5 (0 : Int64) u
noncomputable def jb_Model_instance_70 (fu : Nat) : Nat → Int32 → Int32 → xk_St → Option (Unit × xk_St)
  | 0 => fun _ _ _ => none
  | n + 1 => fun b1 b2 u =>
    xs_let (jb_Model_instance_70 fu  n) fun k70 =>
    if b1 ≤ b2 then (jb_Model_instance_167 fu u) else (if (u.1 29) = (0 : Int32) then ((xs_seq (fm_Model_place fu u) fun _ u20 => xs_let ((u20.2.1 0) &&& (4294967295 : Int64)) fun a21 => xs_seq (fm_Model_number fu u20) fun a22 u23 => if (a21 + a22) ≤ ((u23.1 24).toInt64) then (jb_Model_instance_119 fu k70 b1 b2 a21 a22 u23) else ((xs_let (xs_I u23 29 (5 : Int32)) fun u29 => jb_Model_instance_119 fu k70 b1 b2 a21 a22 u29)))) else (jb_Model_instance_167 fu u))
noncomputable def jb_Model_instance_42 (fu : Nat) : Nat → Int32 → xk_St → Option (Unit × xk_St)
  | 0 => fun _ _ => none
  | n + 1 => fun b1 u =>
    xs_let (jb_Model_instance_42 fu  n) fun k42 =>
    if (64 : Int32) ≤ b1 then ((xs_seq (fm_Model_rowOf fu (9 : Int32) u) fun a5 u6 => jb_Model_instance_70 fu fu a5 (0 : Int32) u6)) else ((if b1 < 0 ∨ 64 ≤ b1.toNatClampNeg then none else xs_let (xs_A u 28 b1.toNatClampNeg (-1 : Int32)) fun u30 => xs_let (b1 + (1 : Int32)) fun a31 => k42 a31 u30))
noncomputable def jb_Model_instance_21 (fu : Nat) : Nat → Int32 → xk_St → Option (Unit × xk_St)
  | 0 => fun _ _ => none
  | n + 1 => fun b1 u =>
    xs_let (jb_Model_instance_21 fu  n) fun k21 =>
    if (65536 : Int32) ≤ b1 then (jb_Model_instance_42 fu fu (0 : Int32) u) else ((if b1 < 0 ∨ 65536 ≤ b1.toNatClampNeg then none else xs_let (xs_A u 27 b1.toNatClampNeg (vp_nar .byte (0 : Int32))) fun u32 => xs_let (b1 + (1 : Int32)) fun a33 => k21 a33 u32))
noncomputable def fm_Model_instance (fu : Nat) (u : xk_St) : Option (Unit × xk_St) :=
  (xs_let (xs_I u 25 (1 : Int32)) fun u1 => xs_seq (fm_Model_noObjects fu u1) fun _ u2 => xs_let (xs_I u2 26 (0 : Int32)) fun u3 => xs_let (xs_I u3 29 (0 : Int32)) fun u4 => jb_Model_instance_21 fu fu (0 : Int32) u4)
set_option maxHeartbeats 4000000 in
set_option maxRecDepth 100000 in
theorem wj_Model_instance_288 {p : Program} {l : Launch} {e : Env} {s : State} {m : MethodId} {args : Array Value} {below : List Frame} {meth : Method} {c : Code} {D : va_G} {ad : Nat → Nat} {ca : Nat → ClassId} {ads : List Nat} {fu : Nat} (htr : l.stackTraces = false) (C : xk_C D kx_cl (kx_ty ca) (kw_m ad ca) ads "ModuleHouseModel" prog_14_method_134_code 9 none p e s m args meth c) (hne : c.exceptionTable.isEmpty = true) {u' : xk_St} {r : Unit} {u : xk_St} {H : Heap} {locs : List Loc} {ls : Array Slot} (h : jb_Model_instance_288 fu   u = some (r, u')) (hP : va_P D kx_cl (kw_m ad ca u) H) (hS : va_S (xk_A ads s.heap.size) s.heap H locs) (hl : lv_has ls 9 [(0, .ref (ad 0))]) : W p l e rm_Model_instance s m args below meth c H locs 0 0 (xk_MQ below (xk_Qc D kx_cl (kw_m ad ca) ads (xo_v (.inl r)) u') args s (xk_A ads s.heap.size)) (F0 m 288 ls []) := by
  have hx := C.1.1
  have hb := C.1.2.1
  have hok := C.2.2.1
  unfold jb_Model_instance_288 at h
  refine lv_aload_n hx hb dd_Model_instance_288 rfl (lv_at hl 0 rfl) ?_
  refine gf_m_Model_0_trap C hP dd_Model_instance_289 ?_
  refine lv_if_ne (tgt := 313) hx hb dd_Model_instance_292 (by decide) (fun hc => ?_) (fun hc => ?_)
  · have h := xp_f hc h
    obtain ⟨rfl, rfl⟩ := xp_r h
    exact xr_vret C hP hS dd_Model_instance_313
  · have h := xp_t hc h
    refine lv_aload_n hx hb dd_Model_instance_295 rfl (lv_at hl 0 rfl) ?_
    refine gf_m_Model_0_first C hP dd_Model_instance_296 ?_
    refine lv_if_lt (tgt := 313) hx hb dd_Model_instance_299 (by decide) (fun hc => ?_) (fun hc => ?_)
    · have h := xp_t hc h
      obtain ⟨rfl, rfl⟩ := xp_r h
      exact xr_vret C hP hS dd_Model_instance_313
    · have h := xp_f hc h
      refine lv_aload_n hx hb dd_Model_instance_302 rfl (lv_at hl 0 rfl) ?_
      refine lv_aload_n hx hb dd_Model_instance_303 rfl (lv_at hl 0 rfl) ?_
      refine gf_m_Model_0_first C hP dd_Model_instance_304 ?_
      refine lv_ldc2 (v := 1000) hx hb C.1.2.2.2.1 (C.1.2.2.2.2 _ (xk_c11 (w := Jvm.Cond.constantLong "ModuleHouseModel" 817 1000) 25 rfl rfl)) dd_Model_instance_307 ?_
      obtain ⟨rx, u7, hq, h⟩ := xp_seq h
      refine xk_goesV (xr_V (As := [.int (u.1 20), .long (1000 : Int64)]) (rest := []) C hP hS (ct_Model_run htr hok hq) kq_Model_819 0 11 rfl rfl ⟨rfl, rfl, Nat.le_of_ble_eq_true rfl, Nat.le_of_ble_eq_true rfl⟩ ⟨Nat.le_of_ble_eq_true rfl, Nat.le_of_ble_eq_true rfl⟩ hl.1 rfl rfl (Nat.le_of_ble_eq_true rfl) dd_Model_instance_310) hS (fun H locs hP hS => ?_)
      clear hq
      obtain ⟨rfl, rfl⟩ := xp_r h
      exact xr_vret C hP hS dd_Model_instance_313
set_option maxHeartbeats 4000000 in
set_option maxRecDepth 100000 in
theorem wj_Model_instance_282 {p : Program} {l : Launch} {e : Env} {s : State} {m : MethodId} {args : Array Value} {below : List Frame} {meth : Method} {c : Code} {D : va_G} {ad : Nat → Nat} {ca : Nat → ClassId} {ads : List Nat} {fu : Nat} (htr : l.stackTraces = false) (C : xk_C D kx_cl (kx_ty ca) (kw_m ad ca) ads "ModuleHouseModel" prog_14_method_134_code 9 none p e s m args meth c) (hne : c.exceptionTable.isEmpty = true) {u' : xk_St} {r : Unit} {k187 : Int32 → Int32 → xk_St → Option (Unit × xk_St)} (hk187 : ∀ (c0 : Int32) (c1 : Int32) (u : xk_St) (H : Heap) (locs : List Loc) (ls : Array Slot), k187 c0 c1 u = some (r, u') → va_P D kx_cl (kw_m ad ca u) H → va_S (xk_A ads s.heap.size) s.heap H locs → lv_has ls 9 [(0, .ref (ad 0)), (1, .int c0), (2, .int c1)] → W p l e rm_Model_instance s m args below meth c H locs 0 0 (xk_MQ below (xk_Qc D kx_cl (kw_m ad ca) ads (xo_v (.inl r)) u') args s (xk_A ads s.heap.size)) (F0 m 187 ls [])) {b1 : Int32} {b2 : Int32} {u : xk_St} {H : Heap} {locs : List Loc} {ls : Array Slot} (h : jb_Model_instance_282 fu k187 b1 b2 u = some (r, u')) (hP : va_P D kx_cl (kw_m ad ca u) H) (hS : va_S (xk_A ads s.heap.size) s.heap H locs) (hl : lv_has ls 9 [(0, .ref (ad 0)), (1, .int b1), (2, .int b2)]) : W p l e rm_Model_instance s m args below meth c H locs 0 0 (xk_MQ below (xk_Qc D kx_cl (kw_m ad ca) ads (xo_v (.inl r)) u') args s (xk_A ads s.heap.size)) (F0 m 282 ls []) := by
  have hx := C.1.1
  have hb := C.1.2.1
  have hok := C.2.2.1
  unfold jb_Model_instance_282 at h
  obtain ⟨a12, ea12, h⟩ := xp_let h
  refine lv_iinc (v := a12) (lv' := [(2, .int a12), (0, .ref (ad 0)), (1, .int b1)]) hx hb dd_Model_instance_282 hl (k := 2) rfl (by rw [ea12]; first | rfl | decide) (by decide) rfl (fun ls hl => ?_)
  refine lv_goto (tgt := 187) hx hb dd_Model_instance_285 (by decide) ?_
  exact hk187 b1 a12 u _ _ _ h hP hS (lv_sub hl [1, 2, 0] rfl)
set_option maxHeartbeats 4000000 in
set_option maxRecDepth 100000 in
theorem wj_Model_instance_243 {p : Program} {l : Launch} {e : Env} {s : State} {m : MethodId} {args : Array Value} {below : List Frame} {meth : Method} {c : Code} {D : va_G} {ad : Nat → Nat} {ca : Nat → ClassId} {ads : List Nat} {fu : Nat} (htr : l.stackTraces = false) (C : xk_C D kx_cl (kx_ty ca) (kw_m ad ca) ads "ModuleHouseModel" prog_14_method_134_code 9 none p e s m args meth c) (hne : c.exceptionTable.isEmpty = true) {u' : xk_St} {r : Unit} {k187 : Int32 → Int32 → xk_St → Option (Unit × xk_St)} (hk187 : ∀ (c0 : Int32) (c1 : Int32) (u : xk_St) (H : Heap) (locs : List Loc) (ls : Array Slot), k187 c0 c1 u = some (r, u') → va_P D kx_cl (kw_m ad ca u) H → va_S (xk_A ads s.heap.size) s.heap H locs → lv_has ls 9 [(0, .ref (ad 0)), (1, .int c0), (2, .int c1)] → W p l e rm_Model_instance s m args below meth c H locs 0 0 (xk_MQ below (xk_Qc D kx_cl (kw_m ad ca) ads (xo_v (.inl r)) u') args s (xk_A ads s.heap.size)) (F0 m 187 ls [])) : ∀ {n : Nat} {b1 : Int32} {b2 : Int32} {b3 : Int64} {b5 : Int64} {b7 : Int64} {u : xk_St} {H : Heap} {locs : List Loc} {ls : Array Slot} (h : jb_Model_instance_243 fu k187 n b1 b2 b3 b5 b7 u = some (r, u')) (hP : va_P D kx_cl (kw_m ad ca u) H) (hS : va_S (xk_A ads s.heap.size) s.heap H locs) (hl : lv_has ls 9 [(0, .ref (ad 0)), (1, .int b1), (2, .int b2), (3, .long b3), (5, .long b5), (7, .long b7)]), W p l e rm_Model_instance s m args below meth c H locs 0 0 (xk_MQ below (xk_Qc D kx_cl (kw_m ad ca) ads (xo_v (.inl r)) u') args s (xk_A ads s.heap.size)) (F0 m 243 ls []) := by
  intro n
  have hx := C.1.1
  have hb := C.1.2.1
  have hok := C.2.2.1
  induction n with
  | zero =>
    intro _ _ _ _ _ u H locs ls h
    have h : none = some (r, u') := h
    cases h
  | succ n ih =>
    intro b1 b2 b3 b5 b7 u H locs ls h hP hS hl
    unfold jb_Model_instance_243 at h
    obtain ⟨k243, ek243, h⟩ := xp_let h
    have hk243 : ∀ (c0 : Int32) (c1 : Int32) (c2 : Int64) (c3 : Int64) (c4 : Int64) (u : xk_St) (H : Heap) (locs : List Loc) (ls : Array Slot), k243 c0 c1 c2 c3 c4 u = some (r, u') → va_P D kx_cl (kw_m ad ca u) H → va_S (xk_A ads s.heap.size) s.heap H locs → lv_has ls 9 [(0, .ref (ad 0)), (1, .int c0), (2, .int c1), (3, .long c2), (5, .long c3), (7, .long c4)] → W p l e rm_Model_instance s m args below meth c H locs 0 0 (xk_MQ below (xk_Qc D kx_cl (kw_m ad ca) ads (xo_v (.inl r)) u') args s (xk_A ads s.heap.size)) (F0 m 243 ls []) := by
      intro c0 c1 c2 c3 c4 u H locs ls h hP hS hl
      subst ek243
      exact ih h hP hS hl
    clear ih ek243
    refine lv_lload hx hb dd_Model_instance_243 (lv_at hl 5 rfl) ?_
    refine lv_lload hx hb dd_Model_instance_245 (lv_at hl 4 rfl) ?_
    refine xr_lc_ge (tgt := 282) hx hb dd_Model_instance_247 dd_Model_instance_248 (by decide) (fun hc => ?_) (fun hc => ?_)
    · have h := xp_t hc h
      exact wj_Model_instance_282 htr C hne hk187 h hP hS (lv_sub hl [0, 1, 2] rfl)
    · have h := xp_f hc h
      refine lv_aload_n hx hb dd_Model_instance_251 rfl (lv_at hl 0 rfl) ?_
      refine gf_m_Model_0_trap C hP dd_Model_instance_252 ?_
      refine lv_if_ne (tgt := 282) hx hb dd_Model_instance_255 (by decide) (fun hc => ?_) (fun hc => ?_)
      · have h := xp_f hc h
        exact wj_Model_instance_282 htr C hne hk187 h hP hS (lv_sub hl [0, 1, 2] rfl)
      · have h := xp_t hc h
        refine lv_aload_n hx hb dd_Model_instance_258 rfl (lv_at hl 0 rfl) ?_
        refine gf_m_Model_0_memory C hP dd_Model_instance_259 ?_
        refine lv_lload_n hx hb dd_Model_instance_262 rfl (lv_at hl 3 rfl) ?_
        refine lv_lload hx hb dd_Model_instance_263 (lv_at hl 5 rfl) ?_
        refine lv_ladd hx hb dd_Model_instance_265 ?_
        refine lv_l2i hx hb dd_Model_instance_266 rfl ?_
        refine lv_aload_n hx hb dd_Model_instance_267 rfl (lv_at hl 0 rfl) ?_
        obtain ⟨a13, u14, hq, h⟩ := xp_seq h
        refine xk_goesI (xr_V (As := []) (rest := [.int ((b3 + b7).toInt32), .ref (ad 31)]) C hP hS (ct_Model_one htr hok hq) kq_Model_178 0 11 rfl rfl ⟨rfl, rfl, Nat.le_of_ble_eq_true rfl, Nat.le_of_ble_eq_true rfl⟩ ⟨Nat.le_of_ble_eq_true rfl, Nat.le_of_ble_eq_true rfl⟩ hl.1 rfl rfl (Nat.le_of_ble_eq_true rfl) dd_Model_instance_268) hS (fun H locs hP hS => ?_)
        clear hq
        refine lv_i2b hx hb dd_Model_instance_271 rfl ?_
        obtain ⟨hi, h⟩ := xp_g h
        refine as_m_31 C hP hS hi dd_Model_instance_272 (fun H locs hP hS => ?_)
        obtain ⟨u15, eu15, h⟩ := xp_let h
        rw [← eu15] at hP
        refine lv_lload hx hb dd_Model_instance_273 (lv_at hl 5 rfl) ?_
        refine lv_lconst (v := 1) hx hb dd_Model_instance_275 (by decide) ?_
        refine lv_ladd hx hb dd_Model_instance_276 ?_
        obtain ⟨a16, ea16, h⟩ := xp_let h
        refine xr_naml ea16 ?_
        refine lv_lstore (lv' := [(7, .long a16), (0, .ref (ad 0)), (1, .int b1), (2, .int b2), (3, .long b3), (5, .long b5)]) hx hb dd_Model_instance_277 hl (by decide) rfl (fun ls hl => ?_)
        refine lv_goto (tgt := 243) hx hb dd_Model_instance_279 (by decide) ?_
        exact hk243 b1 b2 b3 b5 a16 u15 _ _ _ h hP hS (lv_sub hl [1, 2, 3, 4, 5, 0] rfl)
set_option maxHeartbeats 4000000 in
set_option maxRecDepth 100000 in
theorem wj_Model_instance_240 {p : Program} {l : Launch} {e : Env} {s : State} {m : MethodId} {args : Array Value} {below : List Frame} {meth : Method} {c : Code} {D : va_G} {ad : Nat → Nat} {ca : Nat → ClassId} {ads : List Nat} {fu : Nat} (htr : l.stackTraces = false) (C : xk_C D kx_cl (kx_ty ca) (kw_m ad ca) ads "ModuleHouseModel" prog_14_method_134_code 9 none p e s m args meth c) (hne : c.exceptionTable.isEmpty = true) {u' : xk_St} {r : Unit} {k187 : Int32 → Int32 → xk_St → Option (Unit × xk_St)} (hk187 : ∀ (c0 : Int32) (c1 : Int32) (u : xk_St) (H : Heap) (locs : List Loc) (ls : Array Slot), k187 c0 c1 u = some (r, u') → va_P D kx_cl (kw_m ad ca u) H → va_S (xk_A ads s.heap.size) s.heap H locs → lv_has ls 9 [(0, .ref (ad 0)), (1, .int c0), (2, .int c1)] → W p l e rm_Model_instance s m args below meth c H locs 0 0 (xk_MQ below (xk_Qc D kx_cl (kw_m ad ca) ads (xo_v (.inl r)) u') args s (xk_A ads s.heap.size)) (F0 m 187 ls [])) {b1 : Int32} {b2 : Int32} {b3 : Int64} {b5 : Int64} {u : xk_St} {H : Heap} {locs : List Loc} {ls : Array Slot} (h : jb_Model_instance_240 fu k187 b1 b2 b3 b5 u = some (r, u')) (hP : va_P D kx_cl (kw_m ad ca u) H) (hS : va_S (xk_A ads s.heap.size) s.heap H locs) (hl : lv_has ls 9 [(0, .ref (ad 0)), (1, .int b1), (2, .int b2), (3, .long b3), (5, .long b5)]) : W p l e rm_Model_instance s m args below meth c H locs 0 0 (xk_MQ below (xk_Qc D kx_cl (kw_m ad ca) ads (xo_v (.inl r)) u') args s (xk_A ads s.heap.size)) (F0 m 240 ls []) := by
  have hx := C.1.1
  have hb := C.1.2.1
  have hok := C.2.2.1
  unfold jb_Model_instance_240 at h
  refine lv_lconst (v := 0) hx hb dd_Model_instance_240 (by decide) ?_
  refine lv_lstore (lv' := [(7, .long (0 : Int64)), (0, .ref (ad 0)), (1, .int b1), (2, .int b2), (3, .long b3), (5, .long b5)]) hx hb dd_Model_instance_241 hl (by decide) rfl (fun ls hl => ?_)
  exact wj_Model_instance_243 htr C hne hk187 h hP hS (lv_sub hl [1, 2, 3, 4, 5, 0] rfl)
set_option maxHeartbeats 4000000 in
set_option maxRecDepth 100000 in
theorem wj_Model_instance_187 {p : Program} {l : Launch} {e : Env} {s : State} {m : MethodId} {args : Array Value} {below : List Frame} {meth : Method} {c : Code} {D : va_G} {ad : Nat → Nat} {ca : Nat → ClassId} {ads : List Nat} {fu : Nat} (htr : l.stackTraces = false) (C : xk_C D kx_cl (kx_ty ca) (kw_m ad ca) ads "ModuleHouseModel" prog_14_method_134_code 9 none p e s m args meth c) (hne : c.exceptionTable.isEmpty = true) {u' : xk_St} {r : Unit} : ∀ {n : Nat} {b1 : Int32} {b2 : Int32} {u : xk_St} {H : Heap} {locs : List Loc} {ls : Array Slot} (h : jb_Model_instance_187 fu  n b1 b2 u = some (r, u')) (hP : va_P D kx_cl (kw_m ad ca u) H) (hS : va_S (xk_A ads s.heap.size) s.heap H locs) (hl : lv_has ls 9 [(0, .ref (ad 0)), (1, .int b1), (2, .int b2)]), W p l e rm_Model_instance s m args below meth c H locs 0 0 (xk_MQ below (xk_Qc D kx_cl (kw_m ad ca) ads (xo_v (.inl r)) u') args s (xk_A ads s.heap.size)) (F0 m 187 ls []) := by
  intro n
  have hx := C.1.1
  have hb := C.1.2.1
  have hok := C.2.2.1
  induction n with
  | zero =>
    intro _ _ u H locs ls h
    have h : none = some (r, u') := h
    cases h
  | succ n ih =>
    intro b1 b2 u H locs ls h hP hS hl
    unfold jb_Model_instance_187 at h
    obtain ⟨k187, ek187, h⟩ := xp_let h
    have hk187 : ∀ (c0 : Int32) (c1 : Int32) (u : xk_St) (H : Heap) (locs : List Loc) (ls : Array Slot), k187 c0 c1 u = some (r, u') → va_P D kx_cl (kw_m ad ca u) H → va_S (xk_A ads s.heap.size) s.heap H locs → lv_has ls 9 [(0, .ref (ad 0)), (1, .int c0), (2, .int c1)] → W p l e rm_Model_instance s m args below meth c H locs 0 0 (xk_MQ below (xk_Qc D kx_cl (kw_m ad ca) ads (xo_v (.inl r)) u') args s (xk_A ads s.heap.size)) (F0 m 187 ls []) := by
      intro c0 c1 u H locs ls h hP hS hl
      subst ek187
      exact ih h hP hS hl
    clear ih ek187
    refine lv_iload_n hx hb dd_Model_instance_187 rfl (lv_at hl 2 rfl) ?_
    refine lv_iload_n hx hb dd_Model_instance_188 rfl (lv_at hl 1 rfl) ?_
    refine lv_icmp_ge (tgt := 288) hx hb dd_Model_instance_189 (by decide) (fun hc => ?_) (fun hc => ?_)
    · have h := xp_t hc h
      exact wj_Model_instance_288 htr C hne h hP hS (lv_sub hl [0] rfl)
    · have h := xp_f hc h
      refine lv_aload_n hx hb dd_Model_instance_192 rfl (lv_at hl 0 rfl) ?_
      refine gf_m_Model_0_trap C hP dd_Model_instance_193 ?_
      refine lv_if_ne (tgt := 288) hx hb dd_Model_instance_196 (by decide) (fun hc => ?_) (fun hc => ?_)
      · have h := xp_f hc h
        exact wj_Model_instance_288 htr C hne h hP hS (lv_sub hl [0] rfl)
      · have h := xp_t hc h
        refine lv_aload_n hx hb dd_Model_instance_199 rfl (lv_at hl 0 rfl) ?_
        obtain ⟨rx, u8, hq, h⟩ := xp_seq h
        refine xk_goesV (xr_V (As := []) (rest := []) C hP hS (ct_Model_place htr hok hq) kq_Model_366 0 11 rfl rfl ⟨rfl, rfl, Nat.le_of_ble_eq_true rfl, Nat.le_of_ble_eq_true rfl⟩ ⟨Nat.le_of_ble_eq_true rfl, Nat.le_of_ble_eq_true rfl⟩ hl.1 rfl rfl (Nat.le_of_ble_eq_true rfl) dd_Model_instance_200) hS (fun H locs hP hS => ?_)
        clear hq
        refine lv_aload_n hx hb dd_Model_instance_203 rfl (lv_at hl 0 rfl) ?_
        refine gf_m_Model_0_x C hP dd_Model_instance_204 ?_
        refine lv_ldc2 (v := 4294967295) hx hb C.1.2.2.2.1 (C.1.2.2.2.2 _ (xk_c9 (w := Jvm.Cond.constantLong "ModuleHouseModel" 182 4294967295) 103 rfl rfl)) dd_Model_instance_207 ?_
        refine lv_land hx hb dd_Model_instance_210 ?_
        obtain ⟨a9, ea9, h⟩ := xp_let h
        refine xr_naml ea9 ?_
        refine lv_lstore_n (lv' := [(3, .long a9), (0, .ref (ad 0)), (1, .int b1), (2, .int b2)]) hx hb dd_Model_instance_211 rfl hl (by decide) rfl (fun ls hl => ?_)
        refine lv_aload_n hx hb dd_Model_instance_212 rfl (lv_at hl 1 rfl) ?_
        obtain ⟨a10, u11, hq, h⟩ := xp_seq h
        refine xk_goesL (xr_V (As := []) (rest := []) C hP hS (ct_Model_number htr hok hq) kq_Model_295 0 11 rfl rfl ⟨rfl, rfl, Nat.le_of_ble_eq_true rfl, Nat.le_of_ble_eq_true rfl⟩ ⟨Nat.le_of_ble_eq_true rfl, Nat.le_of_ble_eq_true rfl⟩ hl.1 rfl rfl (Nat.le_of_ble_eq_true rfl) dd_Model_instance_213) hS (fun H locs hP hS => ?_)
        clear hq
        refine lv_lstore (lv' := [(5, .long a10), (3, .long a9), (0, .ref (ad 0)), (1, .int b1), (2, .int b2)]) hx hb dd_Model_instance_216 hl (by decide) rfl (fun ls hl => ?_)
        refine lv_lload_n hx hb dd_Model_instance_218 rfl (lv_at hl 1 rfl) ?_
        refine lv_lload hx hb dd_Model_instance_219 (lv_at hl 0 rfl) ?_
        refine lv_ladd hx hb dd_Model_instance_221 ?_
        refine lv_ldc2 (v := 4096) hx hb C.1.2.2.2.1 (C.1.2.2.2.2 _ (xk_c11 (w := Jvm.Cond.constantLong "ModuleHouseModel" 740 4096) 24 rfl rfl)) dd_Model_instance_222 ?_
        refine lv_aload_n hx hb dd_Model_instance_225 rfl (lv_at hl 2 rfl) ?_
        refine gf_m_Model_0_pages C hP dd_Model_instance_226 ?_
        refine lv_i2l hx hb dd_Model_instance_229 rfl ?_
        refine lv_lmul hx hb dd_Model_instance_230 ?_
        refine xr_lc_le (tgt := 240) hx hb dd_Model_instance_231 dd_Model_instance_232 (by decide) (fun hc => ?_) (fun hc => ?_)
        · have h := xp_t hc h
          exact wj_Model_instance_240 htr C hne hk187 h hP hS (lv_sub hl [2, 3, 4, 1, 0] rfl)
        · have h := xp_f hc h
          refine lv_aload_n hx hb dd_Model_instance_235 rfl (lv_at hl 2 rfl) ?_
          refine lv_iconst (v := 2) hx hb dd_Model_instance_236 (by decide) ?_
          refine pf_m_Model_0_trap C hP hS dd_Model_instance_237 (fun H locs hP hS => ?_)
          obtain ⟨u17, eu17, h⟩ := xp_let h
          rw [← eu17] at hP
          exact wj_Model_instance_240 htr C hne hk187 h hP hS (lv_sub hl [2, 3, 4, 1, 0] rfl)
set_option maxHeartbeats 4000000 in
set_option maxRecDepth 100000 in
theorem wj_Model_instance_184 {p : Program} {l : Launch} {e : Env} {s : State} {m : MethodId} {args : Array Value} {below : List Frame} {meth : Method} {c : Code} {D : va_G} {ad : Nat → Nat} {ca : Nat → ClassId} {ads : List Nat} {fu : Nat} (htr : l.stackTraces = false) (C : xk_C D kx_cl (kx_ty ca) (kw_m ad ca) ads "ModuleHouseModel" prog_14_method_134_code 9 none p e s m args meth c) (hne : c.exceptionTable.isEmpty = true) {u' : xk_St} {r : Unit} {s0 : Int32} {u : xk_St} {H : Heap} {locs : List Loc} {ls : Array Slot} (h : jb_Model_instance_184 fu  s0 u = some (r, u')) (hP : va_P D kx_cl (kw_m ad ca u) H) (hS : va_S (xk_A ads s.heap.size) s.heap H locs) (hl : lv_has ls 9 [(0, .ref (ad 0))]) : W p l e rm_Model_instance s m args below meth c H locs 0 0 (xk_MQ below (xk_Qc D kx_cl (kw_m ad ca) ads (xo_v (.inl r)) u') args s (xk_A ads s.heap.size)) (F0 m 184 ls [.int s0]) := by
  have hx := C.1.1
  have hb := C.1.2.1
  have hok := C.2.2.1
  unfold jb_Model_instance_184 at h
  refine lv_istore_n (lv' := [(1, .int s0), (0, .ref (ad 0))]) hx hb dd_Model_instance_184 rfl hl (by decide) rfl (fun ls hl => ?_)
  refine lv_iconst (v := 0) hx hb dd_Model_instance_185 (by decide) ?_
  refine lv_istore_n (lv' := [(2, .int (0 : Int32)), (1, .int s0), (0, .ref (ad 0))]) hx hb dd_Model_instance_186 rfl hl (by decide) rfl (fun ls hl => ?_)
  exact wj_Model_instance_187 htr C hne h hP hS (lv_sub hl [2, 1, 0] rfl)
set_option maxHeartbeats 4000000 in
set_option maxRecDepth 100000 in
theorem wj_Model_instance_167 {p : Program} {l : Launch} {e : Env} {s : State} {m : MethodId} {args : Array Value} {below : List Frame} {meth : Method} {c : Code} {D : va_G} {ad : Nat → Nat} {ca : Nat → ClassId} {ads : List Nat} {fu : Nat} (htr : l.stackTraces = false) (C : xk_C D kx_cl (kx_ty ca) (kw_m ad ca) ads "ModuleHouseModel" prog_14_method_134_code 9 none p e s m args meth c) (hne : c.exceptionTable.isEmpty = true) {u' : xk_St} {r : Unit} {u : xk_St} {H : Heap} {locs : List Loc} {ls : Array Slot} (h : jb_Model_instance_167 fu   u = some (r, u')) (hP : va_P D kx_cl (kw_m ad ca u) H) (hS : va_S (xk_A ads s.heap.size) s.heap H locs) (hl : lv_has ls 9 [(0, .ref (ad 0))]) : W p l e rm_Model_instance s m args below meth c H locs 0 0 (xk_MQ below (xk_Qc D kx_cl (kw_m ad ca) ads (xo_v (.inl r)) u') args s (xk_A ads s.heap.size)) (F0 m 167 ls []) := by
  have hx := C.1.1
  have hb := C.1.2.1
  have hok := C.2.2.1
  unfold jb_Model_instance_167 at h
  refine lv_aload_n hx hb dd_Model_instance_167 rfl (lv_at hl 0 rfl) ?_
  refine gf_m_Model_0_trap C hP dd_Model_instance_168 ?_
  refine lv_if_ne (tgt := 183) hx hb dd_Model_instance_171 (by decide) (fun hc => ?_) (fun hc => ?_)
  · have h := xp_f hc h
    refine lv_iconst (v := 0) hx hb dd_Model_instance_183 (by decide) ?_
    exact wj_Model_instance_184 htr C hne h hP hS (lv_sub hl [0] rfl)
  · have h := xp_t hc h
    refine lv_aload_n hx hb dd_Model_instance_174 rfl (lv_at hl 0 rfl) ?_
    refine lv_bipush (v := 11) hx hb dd_Model_instance_175 (by decide) ?_
    obtain ⟨a18, u19, hq, h⟩ := xp_seq h
    refine xk_goesI (xr_V (As := [.int (11 : Int32)]) (rest := []) C hP hS (ct_Model_rowOf htr hok hq) kq_Model_417 0 11 rfl rfl ⟨rfl, rfl, Nat.le_of_ble_eq_true rfl, Nat.le_of_ble_eq_true rfl⟩ ⟨Nat.le_of_ble_eq_true rfl, Nat.le_of_ble_eq_true rfl⟩ hl.1 rfl rfl (Nat.le_of_ble_eq_true rfl) dd_Model_instance_177) hS (fun H locs hP hS => ?_)
    clear hq
    refine lv_goto (tgt := 184) hx hb dd_Model_instance_180 (by decide) ?_
    exact wj_Model_instance_184 htr C hne h hP hS (lv_sub hl [0] rfl)
set_option maxHeartbeats 4000000 in
set_option maxRecDepth 100000 in
theorem wj_Model_instance_161 {p : Program} {l : Launch} {e : Env} {s : State} {m : MethodId} {args : Array Value} {below : List Frame} {meth : Method} {c : Code} {D : va_G} {ad : Nat → Nat} {ca : Nat → ClassId} {ads : List Nat} {fu : Nat} (htr : l.stackTraces = false) (C : xk_C D kx_cl (kx_ty ca) (kw_m ad ca) ads "ModuleHouseModel" prog_14_method_134_code 9 none p e s m args meth c) (hne : c.exceptionTable.isEmpty = true) {u' : xk_St} {r : Unit} {k70 : Int32 → Int32 → xk_St → Option (Unit × xk_St)} (hk70 : ∀ (c0 : Int32) (c1 : Int32) (u : xk_St) (H : Heap) (locs : List Loc) (ls : Array Slot), k70 c0 c1 u = some (r, u') → va_P D kx_cl (kw_m ad ca u) H → va_S (xk_A ads s.heap.size) s.heap H locs → lv_has ls 9 [(0, .ref (ad 0)), (1, .int c0), (2, .int c1)] → W p l e rm_Model_instance s m args below meth c H locs 0 0 (xk_MQ below (xk_Qc D kx_cl (kw_m ad ca) ads (xo_v (.inl r)) u') args s (xk_A ads s.heap.size)) (F0 m 70 ls [])) {b1 : Int32} {b2 : Int32} {u : xk_St} {H : Heap} {locs : List Loc} {ls : Array Slot} (h : jb_Model_instance_161 fu k70 b1 b2 u = some (r, u')) (hP : va_P D kx_cl (kw_m ad ca u) H) (hS : va_S (xk_A ads s.heap.size) s.heap H locs) (hl : lv_has ls 9 [(0, .ref (ad 0)), (1, .int b1), (2, .int b2)]) : W p l e rm_Model_instance s m args below meth c H locs 0 0 (xk_MQ below (xk_Qc D kx_cl (kw_m ad ca) ads (xo_v (.inl r)) u') args s (xk_A ads s.heap.size)) (F0 m 161 ls []) := by
  have hx := C.1.1
  have hb := C.1.2.1
  have hok := C.2.2.1
  unfold jb_Model_instance_161 at h
  obtain ⟨a24, ea24, h⟩ := xp_let h
  refine lv_iinc (v := a24) (lv' := [(2, .int a24), (0, .ref (ad 0)), (1, .int b1)]) hx hb dd_Model_instance_161 hl (k := 2) rfl (by rw [ea24]; first | rfl | decide) (by decide) rfl (fun ls hl => ?_)
  refine lv_goto (tgt := 70) hx hb dd_Model_instance_164 (by decide) ?_
  exact hk70 b1 a24 u _ _ _ h hP hS (lv_sub hl [1, 2, 0] rfl)
set_option maxHeartbeats 4000000 in
set_option maxRecDepth 100000 in
theorem wj_Model_instance_122 {p : Program} {l : Launch} {e : Env} {s : State} {m : MethodId} {args : Array Value} {below : List Frame} {meth : Method} {c : Code} {D : va_G} {ad : Nat → Nat} {ca : Nat → ClassId} {ads : List Nat} {fu : Nat} (htr : l.stackTraces = false) (C : xk_C D kx_cl (kx_ty ca) (kw_m ad ca) ads "ModuleHouseModel" prog_14_method_134_code 9 none p e s m args meth c) (hne : c.exceptionTable.isEmpty = true) {u' : xk_St} {r : Unit} {k70 : Int32 → Int32 → xk_St → Option (Unit × xk_St)} (hk70 : ∀ (c0 : Int32) (c1 : Int32) (u : xk_St) (H : Heap) (locs : List Loc) (ls : Array Slot), k70 c0 c1 u = some (r, u') → va_P D kx_cl (kw_m ad ca u) H → va_S (xk_A ads s.heap.size) s.heap H locs → lv_has ls 9 [(0, .ref (ad 0)), (1, .int c0), (2, .int c1)] → W p l e rm_Model_instance s m args below meth c H locs 0 0 (xk_MQ below (xk_Qc D kx_cl (kw_m ad ca) ads (xo_v (.inl r)) u') args s (xk_A ads s.heap.size)) (F0 m 70 ls [])) : ∀ {n : Nat} {b1 : Int32} {b2 : Int32} {b3 : Int64} {b5 : Int64} {b7 : Int64} {u : xk_St} {H : Heap} {locs : List Loc} {ls : Array Slot} (h : jb_Model_instance_122 fu k70 n b1 b2 b3 b5 b7 u = some (r, u')) (hP : va_P D kx_cl (kw_m ad ca u) H) (hS : va_S (xk_A ads s.heap.size) s.heap H locs) (hl : lv_has ls 9 [(0, .ref (ad 0)), (1, .int b1), (2, .int b2), (3, .long b3), (5, .long b5), (7, .long b7)]), W p l e rm_Model_instance s m args below meth c H locs 0 0 (xk_MQ below (xk_Qc D kx_cl (kw_m ad ca) ads (xo_v (.inl r)) u') args s (xk_A ads s.heap.size)) (F0 m 122 ls []) := by
  intro n
  have hx := C.1.1
  have hb := C.1.2.1
  have hok := C.2.2.1
  induction n with
  | zero =>
    intro _ _ _ _ _ u H locs ls h
    have h : none = some (r, u') := h
    cases h
  | succ n ih =>
    intro b1 b2 b3 b5 b7 u H locs ls h hP hS hl
    unfold jb_Model_instance_122 at h
    obtain ⟨k122, ek122, h⟩ := xp_let h
    have hk122 : ∀ (c0 : Int32) (c1 : Int32) (c2 : Int64) (c3 : Int64) (c4 : Int64) (u : xk_St) (H : Heap) (locs : List Loc) (ls : Array Slot), k122 c0 c1 c2 c3 c4 u = some (r, u') → va_P D kx_cl (kw_m ad ca u) H → va_S (xk_A ads s.heap.size) s.heap H locs → lv_has ls 9 [(0, .ref (ad 0)), (1, .int c0), (2, .int c1), (3, .long c2), (5, .long c3), (7, .long c4)] → W p l e rm_Model_instance s m args below meth c H locs 0 0 (xk_MQ below (xk_Qc D kx_cl (kw_m ad ca) ads (xo_v (.inl r)) u') args s (xk_A ads s.heap.size)) (F0 m 122 ls []) := by
      intro c0 c1 c2 c3 c4 u H locs ls h hP hS hl
      subst ek122
      exact ih h hP hS hl
    clear ih ek122
    refine lv_lload hx hb dd_Model_instance_122 (lv_at hl 5 rfl) ?_
    refine lv_lload hx hb dd_Model_instance_124 (lv_at hl 4 rfl) ?_
    refine xr_lc_ge (tgt := 161) hx hb dd_Model_instance_126 dd_Model_instance_127 (by decide) (fun hc => ?_) (fun hc => ?_)
    · have h := xp_t hc h
      exact wj_Model_instance_161 htr C hne hk70 h hP hS (lv_sub hl [0, 1, 2] rfl)
    · have h := xp_f hc h
      refine lv_aload_n hx hb dd_Model_instance_130 rfl (lv_at hl 0 rfl) ?_
      refine gf_m_Model_0_trap C hP dd_Model_instance_131 ?_
      refine lv_if_ne (tgt := 161) hx hb dd_Model_instance_134 (by decide) (fun hc => ?_) (fun hc => ?_)
      · have h := xp_f hc h
        exact wj_Model_instance_161 htr C hne hk70 h hP hS (lv_sub hl [0, 1, 2] rfl)
      · have h := xp_t hc h
        refine lv_aload_n hx hb dd_Model_instance_137 rfl (lv_at hl 0 rfl) ?_
        refine gf_m_Model_0_tablePlaces C hP dd_Model_instance_138 ?_
        refine lv_lload_n hx hb dd_Model_instance_141 rfl (lv_at hl 3 rfl) ?_
        refine lv_lload hx hb dd_Model_instance_142 (lv_at hl 5 rfl) ?_
        refine lv_ladd hx hb dd_Model_instance_144 ?_
        refine lv_l2i hx hb dd_Model_instance_145 rfl ?_
        refine lv_aload_n hx hb dd_Model_instance_146 rfl (lv_at hl 0 rfl) ?_
        obtain ⟨a25, u26, hq, h⟩ := xp_seq h
        refine xk_goesL (xr_V (As := []) (rest := [.int ((b3 + b7).toInt32), .ref (ad 32)]) C hP hS (ct_Model_number htr hok hq) kq_Model_295 0 11 rfl rfl ⟨rfl, rfl, Nat.le_of_ble_eq_true rfl, Nat.le_of_ble_eq_true rfl⟩ ⟨Nat.le_of_ble_eq_true rfl, Nat.le_of_ble_eq_true rfl⟩ hl.1 rfl rfl (Nat.le_of_ble_eq_true rfl) dd_Model_instance_147) hS (fun H locs hP hS => ?_)
        clear hq
        refine lv_l2i hx hb dd_Model_instance_150 rfl ?_
        obtain ⟨hi, h⟩ := xp_g h
        refine as_m_32 C hP hS hi dd_Model_instance_151 (fun H locs hP hS => ?_)
        obtain ⟨u27, eu27, h⟩ := xp_let h
        rw [← eu27] at hP
        refine lv_lload hx hb dd_Model_instance_152 (lv_at hl 5 rfl) ?_
        refine lv_lconst (v := 1) hx hb dd_Model_instance_154 (by decide) ?_
        refine lv_ladd hx hb dd_Model_instance_155 ?_
        obtain ⟨a28, ea28, h⟩ := xp_let h
        refine xr_naml ea28 ?_
        refine lv_lstore (lv' := [(7, .long a28), (0, .ref (ad 0)), (1, .int b1), (2, .int b2), (3, .long b3), (5, .long b5)]) hx hb dd_Model_instance_156 hl (by decide) rfl (fun ls hl => ?_)
        refine lv_goto (tgt := 122) hx hb dd_Model_instance_158 (by decide) ?_
        exact hk122 b1 b2 b3 b5 a28 u27 _ _ _ h hP hS (lv_sub hl [1, 2, 3, 4, 5, 0] rfl)
set_option maxHeartbeats 4000000 in
set_option maxRecDepth 100000 in
theorem wj_Model_instance_119 {p : Program} {l : Launch} {e : Env} {s : State} {m : MethodId} {args : Array Value} {below : List Frame} {meth : Method} {c : Code} {D : va_G} {ad : Nat → Nat} {ca : Nat → ClassId} {ads : List Nat} {fu : Nat} (htr : l.stackTraces = false) (C : xk_C D kx_cl (kx_ty ca) (kw_m ad ca) ads "ModuleHouseModel" prog_14_method_134_code 9 none p e s m args meth c) (hne : c.exceptionTable.isEmpty = true) {u' : xk_St} {r : Unit} {k70 : Int32 → Int32 → xk_St → Option (Unit × xk_St)} (hk70 : ∀ (c0 : Int32) (c1 : Int32) (u : xk_St) (H : Heap) (locs : List Loc) (ls : Array Slot), k70 c0 c1 u = some (r, u') → va_P D kx_cl (kw_m ad ca u) H → va_S (xk_A ads s.heap.size) s.heap H locs → lv_has ls 9 [(0, .ref (ad 0)), (1, .int c0), (2, .int c1)] → W p l e rm_Model_instance s m args below meth c H locs 0 0 (xk_MQ below (xk_Qc D kx_cl (kw_m ad ca) ads (xo_v (.inl r)) u') args s (xk_A ads s.heap.size)) (F0 m 70 ls [])) {b1 : Int32} {b2 : Int32} {b3 : Int64} {b5 : Int64} {u : xk_St} {H : Heap} {locs : List Loc} {ls : Array Slot} (h : jb_Model_instance_119 fu k70 b1 b2 b3 b5 u = some (r, u')) (hP : va_P D kx_cl (kw_m ad ca u) H) (hS : va_S (xk_A ads s.heap.size) s.heap H locs) (hl : lv_has ls 9 [(0, .ref (ad 0)), (1, .int b1), (2, .int b2), (3, .long b3), (5, .long b5)]) : W p l e rm_Model_instance s m args below meth c H locs 0 0 (xk_MQ below (xk_Qc D kx_cl (kw_m ad ca) ads (xo_v (.inl r)) u') args s (xk_A ads s.heap.size)) (F0 m 119 ls []) := by
  have hx := C.1.1
  have hb := C.1.2.1
  have hok := C.2.2.1
  unfold jb_Model_instance_119 at h
  refine lv_lconst (v := 0) hx hb dd_Model_instance_119 (by decide) ?_
  refine lv_lstore (lv' := [(7, .long (0 : Int64)), (0, .ref (ad 0)), (1, .int b1), (2, .int b2), (3, .long b3), (5, .long b5)]) hx hb dd_Model_instance_120 hl (by decide) rfl (fun ls hl => ?_)
  exact wj_Model_instance_122 htr C hne hk70 h hP hS (lv_sub hl [1, 2, 3, 4, 5, 0] rfl)
set_option maxHeartbeats 4000000 in
set_option maxRecDepth 100000 in
theorem wj_Model_instance_70 {p : Program} {l : Launch} {e : Env} {s : State} {m : MethodId} {args : Array Value} {below : List Frame} {meth : Method} {c : Code} {D : va_G} {ad : Nat → Nat} {ca : Nat → ClassId} {ads : List Nat} {fu : Nat} (htr : l.stackTraces = false) (C : xk_C D kx_cl (kx_ty ca) (kw_m ad ca) ads "ModuleHouseModel" prog_14_method_134_code 9 none p e s m args meth c) (hne : c.exceptionTable.isEmpty = true) {u' : xk_St} {r : Unit} : ∀ {n : Nat} {b1 : Int32} {b2 : Int32} {u : xk_St} {H : Heap} {locs : List Loc} {ls : Array Slot} (h : jb_Model_instance_70 fu  n b1 b2 u = some (r, u')) (hP : va_P D kx_cl (kw_m ad ca u) H) (hS : va_S (xk_A ads s.heap.size) s.heap H locs) (hl : lv_has ls 9 [(0, .ref (ad 0)), (1, .int b1), (2, .int b2)]), W p l e rm_Model_instance s m args below meth c H locs 0 0 (xk_MQ below (xk_Qc D kx_cl (kw_m ad ca) ads (xo_v (.inl r)) u') args s (xk_A ads s.heap.size)) (F0 m 70 ls []) := by
  intro n
  have hx := C.1.1
  have hb := C.1.2.1
  have hok := C.2.2.1
  induction n with
  | zero =>
    intro _ _ u H locs ls h
    have h : none = some (r, u') := h
    cases h
  | succ n ih =>
    intro b1 b2 u H locs ls h hP hS hl
    unfold jb_Model_instance_70 at h
    obtain ⟨k70, ek70, h⟩ := xp_let h
    have hk70 : ∀ (c0 : Int32) (c1 : Int32) (u : xk_St) (H : Heap) (locs : List Loc) (ls : Array Slot), k70 c0 c1 u = some (r, u') → va_P D kx_cl (kw_m ad ca u) H → va_S (xk_A ads s.heap.size) s.heap H locs → lv_has ls 9 [(0, .ref (ad 0)), (1, .int c0), (2, .int c1)] → W p l e rm_Model_instance s m args below meth c H locs 0 0 (xk_MQ below (xk_Qc D kx_cl (kw_m ad ca) ads (xo_v (.inl r)) u') args s (xk_A ads s.heap.size)) (F0 m 70 ls []) := by
      intro c0 c1 u H locs ls h hP hS hl
      subst ek70
      exact ih h hP hS hl
    clear ih ek70
    refine lv_iload_n hx hb dd_Model_instance_70 rfl (lv_at hl 2 rfl) ?_
    refine lv_iload_n hx hb dd_Model_instance_71 rfl (lv_at hl 1 rfl) ?_
    refine lv_icmp_ge (tgt := 167) hx hb dd_Model_instance_72 (by decide) (fun hc => ?_) (fun hc => ?_)
    · have h := xp_t hc h
      exact wj_Model_instance_167 htr C hne h hP hS (lv_sub hl [0] rfl)
    · have h := xp_f hc h
      refine lv_aload_n hx hb dd_Model_instance_75 rfl (lv_at hl 0 rfl) ?_
      refine gf_m_Model_0_trap C hP dd_Model_instance_76 ?_
      refine lv_if_ne (tgt := 167) hx hb dd_Model_instance_79 (by decide) (fun hc => ?_) (fun hc => ?_)
      · have h := xp_f hc h
        exact wj_Model_instance_167 htr C hne h hP hS (lv_sub hl [0] rfl)
      · have h := xp_t hc h
        refine lv_aload_n hx hb dd_Model_instance_82 rfl (lv_at hl 0 rfl) ?_
        obtain ⟨rx, u20, hq, h⟩ := xp_seq h
        refine xk_goesV (xr_V (As := []) (rest := []) C hP hS (ct_Model_place htr hok hq) kq_Model_366 0 11 rfl rfl ⟨rfl, rfl, Nat.le_of_ble_eq_true rfl, Nat.le_of_ble_eq_true rfl⟩ ⟨Nat.le_of_ble_eq_true rfl, Nat.le_of_ble_eq_true rfl⟩ hl.1 rfl rfl (Nat.le_of_ble_eq_true rfl) dd_Model_instance_83) hS (fun H locs hP hS => ?_)
        clear hq
        refine lv_aload_n hx hb dd_Model_instance_86 rfl (lv_at hl 0 rfl) ?_
        refine gf_m_Model_0_x C hP dd_Model_instance_87 ?_
        refine lv_ldc2 (v := 4294967295) hx hb C.1.2.2.2.1 (C.1.2.2.2.2 _ (xk_c9 (w := Jvm.Cond.constantLong "ModuleHouseModel" 182 4294967295) 103 rfl rfl)) dd_Model_instance_90 ?_
        refine lv_land hx hb dd_Model_instance_93 ?_
        obtain ⟨a21, ea21, h⟩ := xp_let h
        refine xr_naml ea21 ?_
        refine lv_lstore_n (lv' := [(3, .long a21), (0, .ref (ad 0)), (1, .int b1), (2, .int b2)]) hx hb dd_Model_instance_94 rfl hl (by decide) rfl (fun ls hl => ?_)
        refine lv_aload_n hx hb dd_Model_instance_95 rfl (lv_at hl 1 rfl) ?_
        obtain ⟨a22, u23, hq, h⟩ := xp_seq h
        refine xk_goesL (xr_V (As := []) (rest := []) C hP hS (ct_Model_number htr hok hq) kq_Model_295 0 11 rfl rfl ⟨rfl, rfl, Nat.le_of_ble_eq_true rfl, Nat.le_of_ble_eq_true rfl⟩ ⟨Nat.le_of_ble_eq_true rfl, Nat.le_of_ble_eq_true rfl⟩ hl.1 rfl rfl (Nat.le_of_ble_eq_true rfl) dd_Model_instance_96) hS (fun H locs hP hS => ?_)
        clear hq
        refine lv_lstore (lv' := [(5, .long a22), (3, .long a21), (0, .ref (ad 0)), (1, .int b1), (2, .int b2)]) hx hb dd_Model_instance_99 hl (by decide) rfl (fun ls hl => ?_)
        refine lv_lload_n hx hb dd_Model_instance_101 rfl (lv_at hl 1 rfl) ?_
        refine lv_lload hx hb dd_Model_instance_102 (lv_at hl 0 rfl) ?_
        refine lv_ladd hx hb dd_Model_instance_104 ?_
        refine lv_aload_n hx hb dd_Model_instance_105 rfl (lv_at hl 2 rfl) ?_
        refine gf_m_Model_0_table C hP dd_Model_instance_106 ?_
        refine lv_i2l hx hb dd_Model_instance_109 rfl ?_
        refine xr_lc_le (tgt := 119) hx hb dd_Model_instance_110 dd_Model_instance_111 (by decide) (fun hc => ?_) (fun hc => ?_)
        · have h := xp_t hc h
          exact wj_Model_instance_119 htr C hne hk70 h hP hS (lv_sub hl [2, 3, 4, 1, 0] rfl)
        · have h := xp_f hc h
          refine lv_aload_n hx hb dd_Model_instance_114 rfl (lv_at hl 2 rfl) ?_
          refine lv_iconst (v := 5) hx hb dd_Model_instance_115 (by decide) ?_
          refine pf_m_Model_0_trap C hP hS dd_Model_instance_116 (fun H locs hP hS => ?_)
          obtain ⟨u29, eu29, h⟩ := xp_let h
          rw [← eu29] at hP
          exact wj_Model_instance_119 htr C hne hk70 h hP hS (lv_sub hl [2, 3, 4, 1, 0] rfl)
set_option maxHeartbeats 4000000 in
set_option maxRecDepth 100000 in
theorem wj_Model_instance_42 {p : Program} {l : Launch} {e : Env} {s : State} {m : MethodId} {args : Array Value} {below : List Frame} {meth : Method} {c : Code} {D : va_G} {ad : Nat → Nat} {ca : Nat → ClassId} {ads : List Nat} {fu : Nat} (htr : l.stackTraces = false) (C : xk_C D kx_cl (kx_ty ca) (kw_m ad ca) ads "ModuleHouseModel" prog_14_method_134_code 9 none p e s m args meth c) (hne : c.exceptionTable.isEmpty = true) {u' : xk_St} {r : Unit} : ∀ {n : Nat} {b1 : Int32} {u : xk_St} {H : Heap} {locs : List Loc} {ls : Array Slot} (h : jb_Model_instance_42 fu  n b1 u = some (r, u')) (hP : va_P D kx_cl (kw_m ad ca u) H) (hS : va_S (xk_A ads s.heap.size) s.heap H locs) (hl : lv_has ls 9 [(0, .ref (ad 0)), (1, .int b1)]), W p l e rm_Model_instance s m args below meth c H locs 0 0 (xk_MQ below (xk_Qc D kx_cl (kw_m ad ca) ads (xo_v (.inl r)) u') args s (xk_A ads s.heap.size)) (F0 m 42 ls []) := by
  intro n
  have hx := C.1.1
  have hb := C.1.2.1
  have hok := C.2.2.1
  induction n with
  | zero =>
    intro _ u H locs ls h
    have h : none = some (r, u') := h
    cases h
  | succ n ih =>
    intro b1 u H locs ls h hP hS hl
    unfold jb_Model_instance_42 at h
    obtain ⟨k42, ek42, h⟩ := xp_let h
    have hk42 : ∀ (c0 : Int32) (u : xk_St) (H : Heap) (locs : List Loc) (ls : Array Slot), k42 c0 u = some (r, u') → va_P D kx_cl (kw_m ad ca u) H → va_S (xk_A ads s.heap.size) s.heap H locs → lv_has ls 9 [(0, .ref (ad 0)), (1, .int c0)] → W p l e rm_Model_instance s m args below meth c H locs 0 0 (xk_MQ below (xk_Qc D kx_cl (kw_m ad ca) ads (xo_v (.inl r)) u') args s (xk_A ads s.heap.size)) (F0 m 42 ls []) := by
      intro c0 u H locs ls h hP hS hl
      subst ek42
      exact ih h hP hS hl
    clear ih ek42
    refine lv_iload_n hx hb dd_Model_instance_42 rfl (lv_at hl 1 rfl) ?_
    refine lv_bipush (v := 64) hx hb dd_Model_instance_43 (by decide) ?_
    refine lv_icmp_ge (tgt := 61) hx hb dd_Model_instance_45 (by decide) (fun hc => ?_) (fun hc => ?_)
    · have h := xp_t hc h
      refine lv_aload_n hx hb dd_Model_instance_61 rfl (lv_at hl 0 rfl) ?_
      refine lv_bipush (v := 9) hx hb dd_Model_instance_62 (by decide) ?_
      obtain ⟨a5, u6, hq, h⟩ := xp_seq h
      refine xk_goesI (xr_V (As := [.int (9 : Int32)]) (rest := []) C hP hS (ct_Model_rowOf htr hok hq) kq_Model_417 0 11 rfl rfl ⟨rfl, rfl, Nat.le_of_ble_eq_true rfl, Nat.le_of_ble_eq_true rfl⟩ ⟨Nat.le_of_ble_eq_true rfl, Nat.le_of_ble_eq_true rfl⟩ hl.1 rfl rfl (Nat.le_of_ble_eq_true rfl) dd_Model_instance_64) hS (fun H locs hP hS => ?_)
      clear hq
      refine lv_istore_n (lv' := [(1, .int a5), (0, .ref (ad 0))]) hx hb dd_Model_instance_67 rfl hl (by decide) rfl (fun ls hl => ?_)
      refine lv_iconst (v := 0) hx hb dd_Model_instance_68 (by decide) ?_
      refine lv_istore_n (lv' := [(2, .int (0 : Int32)), (1, .int a5), (0, .ref (ad 0))]) hx hb dd_Model_instance_69 rfl hl (by decide) rfl (fun ls hl => ?_)
      exact wj_Model_instance_70 htr C hne h hP hS (lv_sub hl [2, 1, 0] rfl)
    · have h := xp_f hc h
      refine lv_aload_n hx hb dd_Model_instance_48 rfl (lv_at hl 0 rfl) ?_
      refine gf_m_Model_0_tablePlaces C hP dd_Model_instance_49 ?_
      refine lv_iload_n hx hb dd_Model_instance_52 rfl (lv_at hl 1 rfl) ?_
      refine lv_iconst (v := (-1)) hx hb dd_Model_instance_53 (by decide) ?_
      obtain ⟨hi, h⟩ := xp_g h
      refine as_m_32 C hP hS hi dd_Model_instance_54 (fun H locs hP hS => ?_)
      obtain ⟨u30, eu30, h⟩ := xp_let h
      rw [← eu30] at hP
      obtain ⟨a31, ea31, h⟩ := xp_let h
      refine lv_iinc (v := a31) (lv' := [(1, .int a31), (0, .ref (ad 0))]) hx hb dd_Model_instance_55 hl (k := 1) rfl (by rw [ea31]; first | rfl | decide) (by decide) rfl (fun ls hl => ?_)
      refine lv_goto (tgt := 42) hx hb dd_Model_instance_58 (by decide) ?_
      exact hk42 a31 u30 _ _ _ h hP hS (lv_sub hl [1, 0] rfl)
set_option maxHeartbeats 4000000 in
set_option maxRecDepth 100000 in
theorem wj_Model_instance_21 {p : Program} {l : Launch} {e : Env} {s : State} {m : MethodId} {args : Array Value} {below : List Frame} {meth : Method} {c : Code} {D : va_G} {ad : Nat → Nat} {ca : Nat → ClassId} {ads : List Nat} {fu : Nat} (htr : l.stackTraces = false) (C : xk_C D kx_cl (kx_ty ca) (kw_m ad ca) ads "ModuleHouseModel" prog_14_method_134_code 9 none p e s m args meth c) (hne : c.exceptionTable.isEmpty = true) {u' : xk_St} {r : Unit} : ∀ {n : Nat} {b1 : Int32} {u : xk_St} {H : Heap} {locs : List Loc} {ls : Array Slot} (h : jb_Model_instance_21 fu  n b1 u = some (r, u')) (hP : va_P D kx_cl (kw_m ad ca u) H) (hS : va_S (xk_A ads s.heap.size) s.heap H locs) (hl : lv_has ls 9 [(0, .ref (ad 0)), (1, .int b1)]), W p l e rm_Model_instance s m args below meth c H locs 0 0 (xk_MQ below (xk_Qc D kx_cl (kw_m ad ca) ads (xo_v (.inl r)) u') args s (xk_A ads s.heap.size)) (F0 m 21 ls []) := by
  intro n
  have hx := C.1.1
  have hb := C.1.2.1
  have hok := C.2.2.1
  induction n with
  | zero =>
    intro _ u H locs ls h
    have h : none = some (r, u') := h
    cases h
  | succ n ih =>
    intro b1 u H locs ls h hP hS hl
    unfold jb_Model_instance_21 at h
    obtain ⟨k21, ek21, h⟩ := xp_let h
    have hk21 : ∀ (c0 : Int32) (u : xk_St) (H : Heap) (locs : List Loc) (ls : Array Slot), k21 c0 u = some (r, u') → va_P D kx_cl (kw_m ad ca u) H → va_S (xk_A ads s.heap.size) s.heap H locs → lv_has ls 9 [(0, .ref (ad 0)), (1, .int c0)] → W p l e rm_Model_instance s m args below meth c H locs 0 0 (xk_MQ below (xk_Qc D kx_cl (kw_m ad ca) ads (xo_v (.inl r)) u') args s (xk_A ads s.heap.size)) (F0 m 21 ls []) := by
      intro c0 u H locs ls h hP hS hl
      subst ek21
      exact ih h hP hS hl
    clear ih ek21
    refine lv_iload_n hx hb dd_Model_instance_21 rfl (lv_at hl 1 rfl) ?_
    refine lv_ldc (v := 65536) hx hb C.1.2.2.2.1 (C.1.2.2.2.2 _ (xk_c8 (w := Jvm.Cond.constant "ModuleHouseModel" 103 65536) 37 rfl rfl)) dd_Model_instance_22 ?_
    refine lv_icmp_ge (tgt := 40) hx hb dd_Model_instance_24 (by decide) (fun hc => ?_) (fun hc => ?_)
    · have h := xp_t hc h
      refine lv_iconst (v := 0) hx hb dd_Model_instance_40 (by decide) ?_
      refine lv_istore_n (lv' := [(1, .int (0 : Int32)), (0, .ref (ad 0))]) hx hb dd_Model_instance_41 rfl hl (by decide) rfl (fun ls hl => ?_)
      exact wj_Model_instance_42 htr C hne h hP hS (lv_sub hl [1, 0] rfl)
    · have h := xp_f hc h
      refine lv_aload_n hx hb dd_Model_instance_27 rfl (lv_at hl 0 rfl) ?_
      refine gf_m_Model_0_memory C hP dd_Model_instance_28 ?_
      refine lv_iload_n hx hb dd_Model_instance_31 rfl (lv_at hl 1 rfl) ?_
      refine lv_iconst (v := 0) hx hb dd_Model_instance_32 (by decide) ?_
      obtain ⟨hi, h⟩ := xp_g h
      refine as_m_31 C hP hS hi dd_Model_instance_33 (fun H locs hP hS => ?_)
      obtain ⟨u32, eu32, h⟩ := xp_let h
      rw [← eu32] at hP
      obtain ⟨a33, ea33, h⟩ := xp_let h
      refine lv_iinc (v := a33) (lv' := [(1, .int a33), (0, .ref (ad 0))]) hx hb dd_Model_instance_34 hl (k := 1) rfl (by rw [ea33]; first | rfl | decide) (by decide) rfl (fun ls hl => ?_)
      refine lv_goto (tgt := 21) hx hb dd_Model_instance_37 (by decide) ?_
      exact hk21 a33 u32 _ _ _ h hP hS (lv_sub hl [1, 0] rfl)
set_option maxHeartbeats 4000000 in
set_option maxRecDepth 100000 in
theorem ct_Model_instance {l : Launch} {D : va_G} {ad : Nat → Nat} {ca : Nat → ClassId} {ads : List Nat} (htr : l.stackTraces = false) (hok : xk_ok (kw_m ad ca) ads) {fu : Nat} {u u' : xk_St} {r : Unit} (h : fm_Model_instance fu u = some (r, u')) :
    ∀ sz, xk_Met l ⟨"ModuleHouseModel", "instance", "()V"⟩ (Cond.code ⟨"ModuleHouseModel", "instance", "()V"⟩ prog_14_method_134_code 9 none :: xk_gd) rm_Model_instance (xk_Pc D kx_cl (kx_ty ca) (kw_m ad ca) ads xk_F sz [.ref (ad 0)] u) (xk_Qc D kx_cl (kw_m ad ca) ads (xo_v (.inl r)) u') (xk_A ads sz) := by
  unfold fm_Model_instance at h
  refine xk_con (by decide) htr hok (Nat.le_of_ble_eq_true rfl) (fun p e s m below meth c ls C hne hl hP => ?_)
  have hx := C.1.1
  have hb := C.1.2.1
  have hS : va_S (xk_A ads s.heap.size) s.heap s.heap [] := va_S.rf
  have hl : lv_has ls 9 [(0, .ref (ad 0))] := hl
  refine lv_aload_n hx hb dd_Model_instance_0 rfl (lv_at hl 0 rfl) ?_
  refine lv_iconst (v := 1) hx hb dd_Model_instance_1 (by decide) ?_
  refine pf_m_Model_0_isInstance C hP hS (by decide) dd_Model_instance_2 (fun H locs hP hS => ?_)
  obtain ⟨u1, eu1, h⟩ := xp_let h
  rw [← eu1] at hP
  refine lv_aload_n hx hb dd_Model_instance_5 rfl (lv_at hl 0 rfl) ?_
  obtain ⟨rx, u2, hq, h⟩ := xp_seq h
  refine xk_goesV (xr_V (As := []) (rest := []) C hP hS (ct_Model_noObjects htr hok hq) kq_Model_814 0 11 rfl rfl ⟨rfl, rfl, Nat.le_of_ble_eq_true rfl, Nat.le_of_ble_eq_true rfl⟩ ⟨Nat.le_of_ble_eq_true rfl, Nat.le_of_ble_eq_true rfl⟩ hl.1 rfl rfl (Nat.le_of_ble_eq_true rfl) dd_Model_instance_6) hS (fun H locs hP hS => ?_)
  clear hq
  refine lv_aload_n hx hb dd_Model_instance_9 rfl (lv_at hl 0 rfl) ?_
  refine lv_iconst (v := 0) hx hb dd_Model_instance_10 (by decide) ?_
  refine pf_m_Model_0_top C hP hS dd_Model_instance_11 (fun H locs hP hS => ?_)
  obtain ⟨u3, eu3, h⟩ := xp_let h
  rw [← eu3] at hP
  refine lv_aload_n hx hb dd_Model_instance_14 rfl (lv_at hl 0 rfl) ?_
  refine lv_iconst (v := 0) hx hb dd_Model_instance_15 (by decide) ?_
  refine pf_m_Model_0_trap C hP hS dd_Model_instance_16 (fun H locs hP hS => ?_)
  obtain ⟨u4, eu4, h⟩ := xp_let h
  rw [← eu4] at hP
  refine lv_iconst (v := 0) hx hb dd_Model_instance_19 (by decide) ?_
  refine lv_istore_n (lv' := [(1, .int (0 : Int32)), (0, .ref (ad 0))]) hx hb dd_Model_instance_20 rfl hl (by decide) rfl (fun ls hl => ?_)
  exact wj_Model_instance_21 htr C hne h hP hS (lv_sub hl [1, 0] rfl)
abbrev rm_Model_load : Room := { frames := 11, cells := 1, slots := 6, locals := 231 }
noncomputable def jb_Model_load_15 (fu : Nat) : Nat → Int32 → xk_St → Option (Int32 × xk_St)
  | 0 => fun _ _ => none
  | n + 1 => fun b1 u =>
    xs_let (jb_Model_load_15 fu  n) fun k15 =>
    if (u.1 3) ≤ b1 then ((xs_let (xs_I u 1 (0 : Int32)) fun u3 => xs_let (xs_I u3 25 (0 : Int32)) fun u4 => xs_let (xs_I u4 31 (0 : Int32)) fun u5 => xs_let (xs_I u5 30 (0 : Int32)) fun u6 => xs_seq (fm_Model_walk fu u6) fun _ u7 => if (u7.1 6) = (0 : Int32) then ((xs_seq (fm_Model_takeDown fu u7) fun _ u8 => if (u8.1 7) = (0 : Int32) then ((xs_seq (fm_Model_instance fu u8) fun _ u9 => some ((u9.1 29), u9))) else (some ((-2 : Int32), u8)))) else (some ((u7.1 6), u7)))) else ((if b1 < 0 ∨ 8192 ≤ b1.toNatClampNeg then none else if b1 < 0 ∨ 8192 ≤ b1.toNatClampNeg then none else xs_let (xs_A u 1 b1.toNatClampNeg (vp_nar .byte (u.2.2.1 0 b1.toNatClampNeg))) fun u10 => xs_let (b1 + (1 : Int32)) fun a11 => k15 a11 u10))
noncomputable def fm_Model_load (fu : Nat) (u : xk_St) : Option (Int32 × xk_St) :=
  (xs_let (xs_I u 0 (0 : Int32)) fun u1 => xs_let (xs_I u1 3 (u1.1 1)) fun u2 => jb_Model_load_15 fu fu (0 : Int32) u2)
set_option maxHeartbeats 4000000 in
set_option maxRecDepth 100000 in
theorem wj_Model_load_15 {p : Program} {l : Launch} {e : Env} {s : State} {m : MethodId} {args : Array Value} {below : List Frame} {meth : Method} {c : Code} {D : va_G} {ad : Nat → Nat} {ca : Nat → ClassId} {ads : List Nat} {fu : Nat} (htr : l.stackTraces = false) (C : xk_C D kx_cl (kx_ty ca) (kw_m ad ca) ads "ModuleHouseModel" prog_14_method_137_code 2 (some .int) p e s m args meth c) (hne : c.exceptionTable.isEmpty = true) {u' : xk_St} {r : Int32} : ∀ {n : Nat} {b1 : Int32} {u : xk_St} {H : Heap} {locs : List Loc} {ls : Array Slot} (h : jb_Model_load_15 fu  n b1 u = some (r, u')) (hP : va_P D kx_cl (kw_m ad ca u) H) (hS : va_S (xk_A ads s.heap.size) s.heap H locs) (hl : lv_has ls 2 [(0, .ref (ad 0)), (1, .int b1)]), W p l e rm_Model_load s m args below meth c H locs 0 0 (xk_MQ below (xk_Qc D kx_cl (kw_m ad ca) ads (xo_i (.inl r)) u') args s (xk_A ads s.heap.size)) (F0 m 15 ls []) := by
  intro n
  have hx := C.1.1
  have hb := C.1.2.1
  have hok := C.2.2.1
  induction n with
  | zero =>
    intro _ u H locs ls h
    have h : none = some (r, u') := h
    cases h
  | succ n ih =>
    intro b1 u H locs ls h hP hS hl
    unfold jb_Model_load_15 at h
    obtain ⟨k15, ek15, h⟩ := xp_let h
    have hk15 : ∀ (c0 : Int32) (u : xk_St) (H : Heap) (locs : List Loc) (ls : Array Slot), k15 c0 u = some (r, u') → va_P D kx_cl (kw_m ad ca u) H → va_S (xk_A ads s.heap.size) s.heap H locs → lv_has ls 2 [(0, .ref (ad 0)), (1, .int c0)] → W p l e rm_Model_load s m args below meth c H locs 0 0 (xk_MQ below (xk_Qc D kx_cl (kw_m ad ca) ads (xo_i (.inl r)) u') args s (xk_A ads s.heap.size)) (F0 m 15 ls []) := by
      intro c0 u H locs ls h hP hS hl
      subst ek15
      exact ih h hP hS hl
    clear ih ek15
    refine lv_iload_n hx hb dd_Model_load_15 rfl (lv_at hl 1 rfl) ?_
    refine lv_aload_n hx hb dd_Model_load_16 rfl (lv_at hl 0 rfl) ?_
    refine gf_m_Model_0_codeMany C hP dd_Model_load_17 ?_
    refine lv_icmp_ge (tgt := 41) hx hb dd_Model_load_20 (by decide) (fun hc => ?_) (fun hc => ?_)
    · have h := xp_t hc h
      refine lv_aload_n hx hb dd_Model_load_41 rfl (lv_at hl 0 rfl) ?_
      refine lv_iconst (v := 0) hx hb dd_Model_load_42 (by decide) ?_
      refine pf_m_Model_0_tapeMany C hP hS dd_Model_load_43 (fun H locs hP hS => ?_)
      obtain ⟨u3, eu3, h⟩ := xp_let h
      rw [← eu3] at hP
      refine lv_aload_n hx hb dd_Model_load_46 rfl (lv_at hl 0 rfl) ?_
      refine lv_iconst (v := 0) hx hb dd_Model_load_47 (by decide) ?_
      refine pf_m_Model_0_isInstance C hP hS (by decide) dd_Model_load_48 (fun H locs hP hS => ?_)
      obtain ⟨u4, eu4, h⟩ := xp_let h
      rw [← eu4] at hP
      refine lv_aload_n hx hb dd_Model_load_51 rfl (lv_at hl 0 rfl) ?_
      refine lv_iconst (v := 0) hx hb dd_Model_load_52 (by decide) ?_
      refine pf_m_Model_0_resultMany C hP hS dd_Model_load_53 (fun H locs hP hS => ?_)
      obtain ⟨u5, eu5, h⟩ := xp_let h
      rw [← eu5] at hP
      refine lv_aload_n hx hb dd_Model_load_56 rfl (lv_at hl 0 rfl) ?_
      refine lv_iconst (v := 0) hx hb dd_Model_load_57 (by decide) ?_
      refine pf_m_Model_0_turnsOver C hP hS dd_Model_load_58 (fun H locs hP hS => ?_)
      obtain ⟨u6, eu6, h⟩ := xp_let h
      rw [← eu6] at hP
      refine lv_aload_n hx hb dd_Model_load_61 rfl (lv_at hl 0 rfl) ?_
      obtain ⟨rx, u7, hq, h⟩ := xp_seq h
      refine xk_goesV (xr_V (As := []) (rest := []) C hP hS (ct_Model_walk htr hok hq) kq_Model_831 0 11 rfl rfl ⟨rfl, rfl, Nat.le_of_ble_eq_true rfl, Nat.le_of_ble_eq_true rfl⟩ ⟨Nat.le_of_ble_eq_true rfl, Nat.le_of_ble_eq_true rfl⟩ hl.1 rfl rfl (Nat.le_of_ble_eq_true rfl) dd_Model_load_62) hS (fun H locs hP hS => ?_)
      clear hq
      refine lv_aload_n hx hb dd_Model_load_65 rfl (lv_at hl 0 rfl) ?_
      refine gf_m_Model_0_bad C hP dd_Model_load_66 ?_
      refine lv_if_eq (tgt := 77) hx hb dd_Model_load_69 (by decide) (fun hc => ?_) (fun hc => ?_)
      · have h := xp_t hc h
        refine lv_aload_n hx hb dd_Model_load_77 rfl (lv_at hl 0 rfl) ?_
        obtain ⟨rx, u8, hq, h⟩ := xp_seq h
        refine xk_goesV (xr_V (As := []) (rest := []) C hP hS (ct_Model_takeDown htr hok hq) kq_Model_834 0 11 rfl rfl ⟨rfl, rfl, Nat.le_of_ble_eq_true rfl, Nat.le_of_ble_eq_true rfl⟩ ⟨Nat.le_of_ble_eq_true rfl, Nat.le_of_ble_eq_true rfl⟩ hl.1 rfl rfl (Nat.le_of_ble_eq_true rfl) dd_Model_load_78) hS (fun H locs hP hS => ?_)
        clear hq
        refine lv_aload_n hx hb dd_Model_load_81 rfl (lv_at hl 0 rfl) ?_
        refine gf_m_Model_0_wrong C hP dd_Model_load_82 ?_
        refine lv_if_eq (tgt := 91) hx hb dd_Model_load_85 (by decide) (fun hc => ?_) (fun hc => ?_)
        · have h := xp_t hc h
          refine lv_aload_n hx hb dd_Model_load_91 rfl (lv_at hl 0 rfl) ?_
          obtain ⟨rx, u9, hq, h⟩ := xp_seq h
          refine xk_goesV (xr_V (As := []) (rest := []) C hP hS (ct_Model_instance htr hok hq) kq_Model_837 0 11 rfl rfl ⟨rfl, rfl, Nat.le_of_ble_eq_true rfl, Nat.le_of_ble_eq_true rfl⟩ ⟨Nat.le_of_ble_eq_true rfl, Nat.le_of_ble_eq_true rfl⟩ hl.1 rfl rfl (Nat.le_of_ble_eq_true rfl) dd_Model_load_92) hS (fun H locs hP hS => ?_)
          clear hq
          refine lv_aload_n hx hb dd_Model_load_95 rfl (lv_at hl 0 rfl) ?_
          refine gf_m_Model_0_trap C hP dd_Model_load_96 ?_
          obtain ⟨rfl, rfl⟩ := xp_r h
          exact xr_iret C hP hS dd_Model_load_99
        · have h := xp_f hc h
          refine lv_bipush (v := (-2)) hx hb dd_Model_load_88 (by decide) ?_
          obtain ⟨rfl, rfl⟩ := xp_r h
          exact xr_iret C hP hS dd_Model_load_90
      · have h := xp_f hc h
        refine lv_aload_n hx hb dd_Model_load_72 rfl (lv_at hl 0 rfl) ?_
        refine gf_m_Model_0_bad C hP dd_Model_load_73 ?_
        obtain ⟨rfl, rfl⟩ := xp_r h
        exact xr_iret C hP hS dd_Model_load_76
    · have h := xp_f hc h
      refine lv_aload_n hx hb dd_Model_load_23 rfl (lv_at hl 0 rfl) ?_
      refine gf_m_Model_0_code C hP dd_Model_load_24 ?_
      refine lv_iload_n hx hb dd_Model_load_27 rfl (lv_at hl 1 rfl) ?_
      refine lv_aload_n hx hb dd_Model_load_28 rfl (lv_at hl 0 rfl) ?_
      refine gf_m_Model_0_tape C hP dd_Model_load_29 ?_
      refine lv_iload_n hx hb dd_Model_load_32 rfl (lv_at hl 1 rfl) ?_
      obtain ⟨hi, h⟩ := xp_g h
      refine al_m_1 C hP hi dd_Model_load_33 ?_
      obtain ⟨hi, h⟩ := xp_g h
      refine as_m_3 C hP hS hi dd_Model_load_34 (fun H locs hP hS => ?_)
      obtain ⟨u10, eu10, h⟩ := xp_let h
      rw [← eu10] at hP
      obtain ⟨a11, ea11, h⟩ := xp_let h
      refine lv_iinc (v := a11) (lv' := [(1, .int a11), (0, .ref (ad 0))]) hx hb dd_Model_load_35 hl (k := 1) rfl (by rw [ea11]; first | rfl | decide) (by decide) rfl (fun ls hl => ?_)
      refine lv_goto (tgt := 15) hx hb dd_Model_load_38 (by decide) ?_
      exact hk15 a11 u10 _ _ _ h hP hS (lv_sub hl [1, 0] rfl)
set_option maxHeartbeats 4000000 in
set_option maxRecDepth 100000 in
theorem ct_Model_load {l : Launch} {D : va_G} {ad : Nat → Nat} {ca : Nat → ClassId} {ads : List Nat} (htr : l.stackTraces = false) (hok : xk_ok (kw_m ad ca) ads) {fu : Nat} {u u' : xk_St} {r : Int32} (h : fm_Model_load fu u = some (r, u')) :
    ∀ sz, xk_Met l ⟨"ModuleHouseModel", "load", "()I"⟩ (Cond.code ⟨"ModuleHouseModel", "load", "()I"⟩ prog_14_method_137_code 2 (some .int) :: xk_gd) rm_Model_load (xk_Pc D kx_cl (kx_ty ca) (kw_m ad ca) ads xk_F sz [.ref (ad 0)] u) (xk_Qc D kx_cl (kw_m ad ca) ads (xo_i (.inl r)) u') (xk_A ads sz) := by
  unfold fm_Model_load at h
  refine xk_con (by decide) htr hok (Nat.le_of_ble_eq_true rfl) (fun p e s m below meth c ls C hne hl hP => ?_)
  have hx := C.1.1
  have hb := C.1.2.1
  have hS : va_S (xk_A ads s.heap.size) s.heap s.heap [] := va_S.rf
  have hl : lv_has ls 2 [(0, .ref (ad 0))] := hl
  refine lv_aload_n hx hb dd_Model_load_0 rfl (lv_at hl 0 rfl) ?_
  refine lv_iconst (v := 0) hx hb dd_Model_load_1 (by decide) ?_
  refine pf_m_Model_0_thrown C hP hS dd_Model_load_2 (fun H locs hP hS => ?_)
  obtain ⟨u1, eu1, h⟩ := xp_let h
  rw [← eu1] at hP
  refine lv_aload_n hx hb dd_Model_load_5 rfl (lv_at hl 0 rfl) ?_
  refine lv_aload_n hx hb dd_Model_load_6 rfl (lv_at hl 0 rfl) ?_
  refine gf_m_Model_0_tapeMany C hP dd_Model_load_7 ?_
  refine pf_m_Model_0_codeMany C hP hS dd_Model_load_10 (fun H locs hP hS => ?_)
  obtain ⟨u2, eu2, h⟩ := xp_let h
  rw [← eu2] at hP
  refine lv_iconst (v := 0) hx hb dd_Model_load_13 (by decide) ?_
  refine lv_istore_n (lv' := [(1, .int (0 : Int32)), (0, .ref (ad 0))]) hx hb dd_Model_load_14 rfl hl (by decide) rfl (fun ls hl => ?_)
  exact wj_Model_load_15 htr C hne h hP hS (lv_sub hl [1, 0] rfl)
abbrev rm_Model_give : Room := { frames := 2, cells := 1, slots := 6, locals := 22 }
noncomputable def jb_Model_give_15 (b1 : Int64) (s0 : Int32) (u : xk_St) : Option (Int32 × xk_St) :=
  (xs_seq (fm_Model_fails s0 (1 : Int32) u) fun a1 u2 => if a1 = (0 : Int32) then ((if (u2.1 2) < 0 ∨ 16 ≤ (u2.1 2).toNatClampNeg then none else xs_let (xs_B u2 0 (u2.1 2).toNatClampNeg b1) fun u3 => xs_let (xs_I u3 2 ((u3.1 2) + (1 : Int32))) fun u4 => some ((u4.1 2), u4))) else (some ((0 : Int32), u2)))
noncomputable def fm_Model_give (x0 : Int64) (u : xk_St) : Option (Int32 × xk_St) :=
  if (u.1 2) = (16 : Int32) then (jb_Model_give_15 x0 (1 : Int32) u) else (jb_Model_give_15 x0 (0 : Int32) u)
set_option maxHeartbeats 4000000 in
set_option maxRecDepth 100000 in
theorem wj_Model_give_15 {p : Program} {l : Launch} {e : Env} {s : State} {m : MethodId} {args : Array Value} {below : List Frame} {meth : Method} {c : Code} {D : va_G} {ad : Nat → Nat} {ca : Nat → ClassId} {ads : List Nat} (htr : l.stackTraces = false) (C : xk_C D kx_cl (kx_ty ca) (kw_m ad ca) ads "ModuleHouseModel" prog_14_method_138_code 3 (some .int) p e s m args meth c) (hne : c.exceptionTable.isEmpty = true) {u' : xk_St} {r : Int32} {b1 : Int64} {s0 : Int32} {u : xk_St} {H : Heap} {locs : List Loc} {ls : Array Slot} (h : jb_Model_give_15  b1 s0 u = some (r, u')) (hP : va_P D kx_cl (kw_m ad ca u) H) (hS : va_S (xk_A ads s.heap.size) s.heap H locs) (hl : lv_has ls 3 [(0, .ref (ad 0)), (1, .long b1)]) : W p l e rm_Model_give s m args below meth c H locs 0 0 (xk_MQ below (xk_Qc D kx_cl (kw_m ad ca) ads (xo_i (.inl r)) u') args s (xk_A ads s.heap.size)) (F0 m 15 ls [.int s0, .ref (ad 0)]) := by
  have hx := C.1.1
  have hb := C.1.2.1
  have hok := C.2.2.1
  unfold jb_Model_give_15 at h
  refine lv_iconst (v := 1) hx hb dd_Model_give_15 (by decide) ?_
  obtain ⟨a1, u2, hq, h⟩ := xp_seq h
  refine xk_goesI (xr_V (As := [.int s0, .int (1 : Int32)]) (rest := []) C hP hS (ct_Model_fails htr hok hq) kq_Model_824 0 11 rfl rfl ⟨rfl, rfl, Nat.le_of_ble_eq_true rfl, Nat.le_of_ble_eq_true rfl⟩ ⟨Nat.le_of_ble_eq_true rfl, Nat.le_of_ble_eq_true rfl⟩ hl.1 rfl rfl (Nat.le_of_ble_eq_true rfl) dd_Model_give_16) hS (fun H locs hP hS => ?_)
  clear hq
  refine lv_if_eq (tgt := 24) hx hb dd_Model_give_19 (by decide) (fun hc => ?_) (fun hc => ?_)
  · have h := xp_t hc h
    refine lv_aload_n hx hb dd_Model_give_24 rfl (lv_at hl 0 rfl) ?_
    refine gf_m_Model_0_given C hP dd_Model_give_25 ?_
    refine lv_aload_n hx hb dd_Model_give_28 rfl (lv_at hl 0 rfl) ?_
    refine gf_m_Model_0_givenMany C hP dd_Model_give_29 ?_
    refine lv_lload_n hx hb dd_Model_give_32 rfl (lv_at hl 1 rfl) ?_
    obtain ⟨hi, h⟩ := xp_g h
    refine as_m_2 C hP hS hi dd_Model_give_33 (fun H locs hP hS => ?_)
    obtain ⟨u3, eu3, h⟩ := xp_let h
    rw [← eu3] at hP
    refine lv_aload_n hx hb dd_Model_give_34 rfl (lv_at hl 0 rfl) ?_
    refine lv_dup hx hb dd_Model_give_35 rfl ?_
    refine gf_m_Model_0_givenMany C hP dd_Model_give_36 ?_
    refine lv_iconst (v := 1) hx hb dd_Model_give_39 (by decide) ?_
    refine lv_iadd hx hb dd_Model_give_40 ?_
    refine pf_m_Model_0_givenMany C hP hS dd_Model_give_41 (fun H locs hP hS => ?_)
    obtain ⟨u4, eu4, h⟩ := xp_let h
    rw [← eu4] at hP
    refine lv_aload_n hx hb dd_Model_give_44 rfl (lv_at hl 0 rfl) ?_
    refine gf_m_Model_0_givenMany C hP dd_Model_give_45 ?_
    obtain ⟨rfl, rfl⟩ := xp_r h
    exact xr_iret C hP hS dd_Model_give_48
  · have h := xp_f hc h
    refine lv_iconst (v := 0) hx hb dd_Model_give_22 (by decide) ?_
    obtain ⟨rfl, rfl⟩ := xp_r h
    exact xr_iret C hP hS dd_Model_give_23
set_option maxHeartbeats 4000000 in
set_option maxRecDepth 100000 in
theorem ct_Model_give {l : Launch} {D : va_G} {ad : Nat → Nat} {ca : Nat → ClassId} {ads : List Nat} (htr : l.stackTraces = false) (hok : xk_ok (kw_m ad ca) ads) {x0 : Int64} {u u' : xk_St} {r : Int32} (h : fm_Model_give x0 u = some (r, u')) :
    ∀ sz, xk_Met l ⟨"ModuleHouseModel", "give", "(J)I"⟩ (Cond.code ⟨"ModuleHouseModel", "give", "(J)I"⟩ prog_14_method_138_code 3 (some .int) :: xk_gd) rm_Model_give (xk_Pc D kx_cl (kx_ty ca) (kw_m ad ca) ads xk_F sz [.ref (ad 0), .long x0] u) (xk_Qc D kx_cl (kw_m ad ca) ads (xo_i (.inl r)) u') (xk_A ads sz) := by
  unfold fm_Model_give at h
  refine xk_con (by decide) htr hok (Nat.le_of_ble_eq_true rfl) (fun p e s m below meth c ls C hne hl hP => ?_)
  have hx := C.1.1
  have hb := C.1.2.1
  have hS : va_S (xk_A ads s.heap.size) s.heap s.heap [] := va_S.rf
  have hl : lv_has ls 3 [(0, .ref (ad 0)), (1, .long x0)] := hl
  refine lv_aload_n hx hb dd_Model_give_0 rfl (lv_at hl 0 rfl) ?_
  refine lv_aload_n hx hb dd_Model_give_1 rfl (lv_at hl 0 rfl) ?_
  refine gf_m_Model_0_givenMany C hP dd_Model_give_2 ?_
  refine lv_bipush (v := 16) hx hb dd_Model_give_5 (by decide) ?_
  refine lv_icmp_ne (tgt := 14) hx hb dd_Model_give_7 (by decide) (fun hc => ?_) (fun hc => ?_)
  · have h := xp_f hc h
    refine lv_iconst (v := 0) hx hb dd_Model_give_14 (by decide) ?_
    exact wj_Model_give_15 htr C hne h hP hS (lv_sub hl [0, 1] rfl)
  · have h := xp_t hc h
    refine lv_iconst (v := 1) hx hb dd_Model_give_10 (by decide) ?_
    refine lv_goto (tgt := 15) hx hb dd_Model_give_11 (by decide) ?_
    exact wj_Model_give_15 htr C hne h hP hS (lv_sub hl [0, 1] rfl)
abbrev rm_Model_exportNamed : Room := { frames := 1, cells := 1, slots := 6, locals := 0 }
noncomputable def jb_Model_exportNamed_94 (fu : Nat) (k4 : Int32 → Int32 → Int32 → xk_St → Option (Int32 × xk_St)) (b1 : Int32) (b3 : Int32) (s0 : Int32) (u : xk_St) : Option (Int32 × xk_St) :=
  (xs_let (b3 + (1 : Int32)) fun a1 => k4 b1 s0 a1 u)
noncomputable def jb_Model_exportNamed_84 (fu : Nat) (k4 : Int32 → Int32 → Int32 → xk_St → Option (Int32 × xk_St)) (b1 : Int32) (b3 : Int32) (b4 : Int32) (u : xk_St) : Option (Int32 × xk_St) :=
  if b4 = (0 : Int32) then (jb_Model_exportNamed_94 fu k4 b1 b3 (-1 : Int32) u) else (jb_Model_exportNamed_94 fu k4 b1 b3 b3 u)
noncomputable def jb_Model_exportNamed_76 (fu : Nat) (k4 : Int32 → Int32 → Int32 → xk_St → Option (Int32 × xk_St)) (k36 : Int32 → Int32 → Int32 → Int32 → xk_St → Option (Int32 × xk_St)) (b1 : Int32) (b3 : Int32) (b5 : Int32) (s0 : Int32) (u : xk_St) : Option (Int32 × xk_St) :=
  (xs_let (b5 + (1 : Int32)) fun a2 => k36 b1 b3 s0 a2 u)
noncomputable def jb_Model_exportNamed_36 (fu : Nat) (k4 : Int32 → Int32 → Int32 → xk_St → Option (Int32 × xk_St)) : Nat → Int32 → Int32 → Int32 → Int32 → xk_St → Option (Int32 × xk_St)
  | 0 => fun _ _ _ _ _ => none
  | n + 1 => fun b1 b3 b4 b5 u =>
    xs_let (jb_Model_exportNamed_36 fu k4 n) fun k36 =>
    if b1 ≤ b5 then (jb_Model_exportNamed_84 fu k4 b1 b3 b4 u) else (if b4 = (0 : Int32) then (jb_Model_exportNamed_84 fu k4 b1 b3 b4 u) else ((if b3 < 0 ∨ 64 ≤ b3.toNatClampNeg then none else if ((u.2.2.1 16 b3.toNatClampNeg) + b5) < 0 ∨ 8192 ≤ ((u.2.2.1 16 b3.toNatClampNeg) + b5).toNatClampNeg then none else if b5 < 0 ∨ 8192 ≤ b5.toNatClampNeg then none else if (u.2.2.1 1 ((u.2.2.1 16 b3.toNatClampNeg) + b5).toNatClampNeg) = (u.2.2.1 0 b5.toNatClampNeg) then (jb_Model_exportNamed_76 fu k4 k36 b1 b3 b5 (1 : Int32) u) else (jb_Model_exportNamed_76 fu k4 k36 b1 b3 b5 (0 : Int32) u))))
noncomputable def jb_Model_exportNamed_31 (fu : Nat) (k4 : Int32 → Int32 → Int32 → xk_St → Option (Int32 × xk_St)) (b1 : Int32) (b3 : Int32) (s0 : Int32) (u : xk_St) : Option (Int32 × xk_St) :=
  jb_Model_exportNamed_36 fu k4 fu b1 b3 s0 (0 : Int32) u
noncomputable def jb_Model_exportNamed_4 (fu : Nat) : Nat → Int32 → Int32 → Int32 → xk_St → Option (Int32 × xk_St)
  | 0 => fun _ _ _ _ => none
  | n + 1 => fun b1 b2 b3 u =>
    xs_let (jb_Model_exportNamed_4 fu  n) fun k4 =>
    if (u.1 19) ≤ b3 then (some (b2, u)) else (if (0 : Int32) ≤ b2 then (some (b2, u)) else ((if b3 < 0 ∨ 64 ≤ b3.toNatClampNeg then none else if (u.2.2.1 17 b3.toNatClampNeg) = b1 then (jb_Model_exportNamed_31 fu k4 b1 b3 (1 : Int32) u) else (jb_Model_exportNamed_31 fu k4 b1 b3 (0 : Int32) u))))
noncomputable def fm_Model_exportNamed (fu : Nat) (x0 : Int32) (u : xk_St) : Option (Int32 × xk_St) :=
  jb_Model_exportNamed_4 fu fu x0 (-1 : Int32) (0 : Int32) u
set_option maxHeartbeats 4000000 in
set_option maxRecDepth 100000 in
theorem wj_Model_exportNamed_94 {p : Program} {l : Launch} {e : Env} {s : State} {m : MethodId} {args : Array Value} {below : List Frame} {meth : Method} {c : Code} {D : va_G} {ad : Nat → Nat} {ca : Nat → ClassId} {ads : List Nat} {fu : Nat} (htr : l.stackTraces = false) (C : xk_C D kx_cl (kx_ty ca) (kw_m ad ca) ads "ModuleHouseModel" prog_14_method_135_code 6 (some .int) p e s m args meth c) (hne : c.exceptionTable.isEmpty = true) {u' : xk_St} {r : Int32} {k4 : Int32 → Int32 → Int32 → xk_St → Option (Int32 × xk_St)} (hk4 : ∀ (c0 : Int32) (c1 : Int32) (c2 : Int32) (u : xk_St) (H : Heap) (locs : List Loc) (ls : Array Slot), k4 c0 c1 c2 u = some (r, u') → va_P D kx_cl (kw_m ad ca u) H → va_S (xk_A ads s.heap.size) s.heap H locs → lv_has ls 6 [(0, .ref (ad 0)), (1, .int c0), (2, .int c1), (3, .int c2)] → W p l e rm_Model_exportNamed s m args below meth c H locs 0 0 (xk_MQ below (xk_Qc D kx_cl (kw_m ad ca) ads (xo_i (.inl r)) u') args s (xk_A ads s.heap.size)) (F0 m 4 ls [])) {b1 : Int32} {b3 : Int32} {s0 : Int32} {u : xk_St} {H : Heap} {locs : List Loc} {ls : Array Slot} (h : jb_Model_exportNamed_94 fu k4 b1 b3 s0 u = some (r, u')) (hP : va_P D kx_cl (kw_m ad ca u) H) (hS : va_S (xk_A ads s.heap.size) s.heap H locs) (hl : lv_has ls 6 [(0, .ref (ad 0)), (1, .int b1), (3, .int b3)]) : W p l e rm_Model_exportNamed s m args below meth c H locs 0 0 (xk_MQ below (xk_Qc D kx_cl (kw_m ad ca) ads (xo_i (.inl r)) u') args s (xk_A ads s.heap.size)) (F0 m 94 ls [.int s0]) := by
  have hx := C.1.1
  have hb := C.1.2.1
  have hok := C.2.2.1
  unfold jb_Model_exportNamed_94 at h
  refine lv_istore_n (lv' := [(2, .int s0), (0, .ref (ad 0)), (1, .int b1), (3, .int b3)]) hx hb dd_Model_exportNamed_94 rfl hl (by decide) rfl (fun ls hl => ?_)
  obtain ⟨a1, ea1, h⟩ := xp_let h
  refine lv_iinc (v := a1) (lv' := [(3, .int a1), (2, .int s0), (0, .ref (ad 0)), (1, .int b1)]) hx hb dd_Model_exportNamed_95 hl (k := 3) rfl (by rw [ea1]; first | rfl | decide) (by decide) rfl (fun ls hl => ?_)
  refine lv_goto (tgt := 4) hx hb dd_Model_exportNamed_98 (by decide) ?_
  exact hk4 b1 s0 a1 u _ _ _ h hP hS (lv_sub hl [2, 3, 1, 0] rfl)
set_option maxHeartbeats 4000000 in
set_option maxRecDepth 100000 in
theorem wj_Model_exportNamed_84 {p : Program} {l : Launch} {e : Env} {s : State} {m : MethodId} {args : Array Value} {below : List Frame} {meth : Method} {c : Code} {D : va_G} {ad : Nat → Nat} {ca : Nat → ClassId} {ads : List Nat} {fu : Nat} (htr : l.stackTraces = false) (C : xk_C D kx_cl (kx_ty ca) (kw_m ad ca) ads "ModuleHouseModel" prog_14_method_135_code 6 (some .int) p e s m args meth c) (hne : c.exceptionTable.isEmpty = true) {u' : xk_St} {r : Int32} {k4 : Int32 → Int32 → Int32 → xk_St → Option (Int32 × xk_St)} (hk4 : ∀ (c0 : Int32) (c1 : Int32) (c2 : Int32) (u : xk_St) (H : Heap) (locs : List Loc) (ls : Array Slot), k4 c0 c1 c2 u = some (r, u') → va_P D kx_cl (kw_m ad ca u) H → va_S (xk_A ads s.heap.size) s.heap H locs → lv_has ls 6 [(0, .ref (ad 0)), (1, .int c0), (2, .int c1), (3, .int c2)] → W p l e rm_Model_exportNamed s m args below meth c H locs 0 0 (xk_MQ below (xk_Qc D kx_cl (kw_m ad ca) ads (xo_i (.inl r)) u') args s (xk_A ads s.heap.size)) (F0 m 4 ls [])) {b1 : Int32} {b3 : Int32} {b4 : Int32} {u : xk_St} {H : Heap} {locs : List Loc} {ls : Array Slot} (h : jb_Model_exportNamed_84 fu k4 b1 b3 b4 u = some (r, u')) (hP : va_P D kx_cl (kw_m ad ca u) H) (hS : va_S (xk_A ads s.heap.size) s.heap H locs) (hl : lv_has ls 6 [(0, .ref (ad 0)), (1, .int b1), (3, .int b3), (4, .int b4)]) : W p l e rm_Model_exportNamed s m args below meth c H locs 0 0 (xk_MQ below (xk_Qc D kx_cl (kw_m ad ca) ads (xo_i (.inl r)) u') args s (xk_A ads s.heap.size)) (F0 m 84 ls []) := by
  have hx := C.1.1
  have hb := C.1.2.1
  have hok := C.2.2.1
  unfold jb_Model_exportNamed_84 at h
  refine lv_iload hx hb dd_Model_exportNamed_84 (lv_at hl 3 rfl) ?_
  refine lv_if_eq (tgt := 93) hx hb dd_Model_exportNamed_86 (by decide) (fun hc => ?_) (fun hc => ?_)
  · have h := xp_t hc h
    refine lv_iconst (v := (-1)) hx hb dd_Model_exportNamed_93 (by decide) ?_
    exact wj_Model_exportNamed_94 htr C hne hk4 h hP hS (lv_sub hl [0, 1, 2] rfl)
  · have h := xp_f hc h
    refine lv_iload_n hx hb dd_Model_exportNamed_89 rfl (lv_at hl 2 rfl) ?_
    refine lv_goto (tgt := 94) hx hb dd_Model_exportNamed_90 (by decide) ?_
    exact wj_Model_exportNamed_94 htr C hne hk4 h hP hS (lv_sub hl [0, 1, 2] rfl)
set_option maxHeartbeats 4000000 in
set_option maxRecDepth 100000 in
theorem wj_Model_exportNamed_76 {p : Program} {l : Launch} {e : Env} {s : State} {m : MethodId} {args : Array Value} {below : List Frame} {meth : Method} {c : Code} {D : va_G} {ad : Nat → Nat} {ca : Nat → ClassId} {ads : List Nat} {fu : Nat} (htr : l.stackTraces = false) (C : xk_C D kx_cl (kx_ty ca) (kw_m ad ca) ads "ModuleHouseModel" prog_14_method_135_code 6 (some .int) p e s m args meth c) (hne : c.exceptionTable.isEmpty = true) {u' : xk_St} {r : Int32} {k4 : Int32 → Int32 → Int32 → xk_St → Option (Int32 × xk_St)} {k36 : Int32 → Int32 → Int32 → Int32 → xk_St → Option (Int32 × xk_St)} (hk4 : ∀ (c0 : Int32) (c1 : Int32) (c2 : Int32) (u : xk_St) (H : Heap) (locs : List Loc) (ls : Array Slot), k4 c0 c1 c2 u = some (r, u') → va_P D kx_cl (kw_m ad ca u) H → va_S (xk_A ads s.heap.size) s.heap H locs → lv_has ls 6 [(0, .ref (ad 0)), (1, .int c0), (2, .int c1), (3, .int c2)] → W p l e rm_Model_exportNamed s m args below meth c H locs 0 0 (xk_MQ below (xk_Qc D kx_cl (kw_m ad ca) ads (xo_i (.inl r)) u') args s (xk_A ads s.heap.size)) (F0 m 4 ls [])) (hk36 : ∀ (c0 : Int32) (c1 : Int32) (c2 : Int32) (c3 : Int32) (u : xk_St) (H : Heap) (locs : List Loc) (ls : Array Slot), k36 c0 c1 c2 c3 u = some (r, u') → va_P D kx_cl (kw_m ad ca u) H → va_S (xk_A ads s.heap.size) s.heap H locs → lv_has ls 6 [(0, .ref (ad 0)), (1, .int c0), (3, .int c1), (4, .int c2), (5, .int c3)] → W p l e rm_Model_exportNamed s m args below meth c H locs 0 0 (xk_MQ below (xk_Qc D kx_cl (kw_m ad ca) ads (xo_i (.inl r)) u') args s (xk_A ads s.heap.size)) (F0 m 36 ls [])) {b1 : Int32} {b3 : Int32} {b5 : Int32} {s0 : Int32} {u : xk_St} {H : Heap} {locs : List Loc} {ls : Array Slot} (h : jb_Model_exportNamed_76 fu k4 k36 b1 b3 b5 s0 u = some (r, u')) (hP : va_P D kx_cl (kw_m ad ca u) H) (hS : va_S (xk_A ads s.heap.size) s.heap H locs) (hl : lv_has ls 6 [(0, .ref (ad 0)), (1, .int b1), (3, .int b3), (5, .int b5)]) : W p l e rm_Model_exportNamed s m args below meth c H locs 0 0 (xk_MQ below (xk_Qc D kx_cl (kw_m ad ca) ads (xo_i (.inl r)) u') args s (xk_A ads s.heap.size)) (F0 m 76 ls [.int s0]) := by
  have hx := C.1.1
  have hb := C.1.2.1
  have hok := C.2.2.1
  unfold jb_Model_exportNamed_76 at h
  refine lv_istore (lv' := [(4, .int s0), (0, .ref (ad 0)), (1, .int b1), (3, .int b3), (5, .int b5)]) hx hb dd_Model_exportNamed_76 hl (by decide) rfl (fun ls hl => ?_)
  obtain ⟨a2, ea2, h⟩ := xp_let h
  refine lv_iinc (v := a2) (lv' := [(5, .int a2), (4, .int s0), (0, .ref (ad 0)), (1, .int b1), (3, .int b3)]) hx hb dd_Model_exportNamed_78 hl (k := 4) rfl (by rw [ea2]; first | rfl | decide) (by decide) rfl (fun ls hl => ?_)
  refine lv_goto (tgt := 36) hx hb dd_Model_exportNamed_81 (by decide) ?_
  exact hk36 b1 b3 s0 a2 u _ _ _ h hP hS (lv_sub hl [2, 3, 4, 1, 0] rfl)
set_option maxHeartbeats 4000000 in
set_option maxRecDepth 100000 in
theorem wj_Model_exportNamed_36 {p : Program} {l : Launch} {e : Env} {s : State} {m : MethodId} {args : Array Value} {below : List Frame} {meth : Method} {c : Code} {D : va_G} {ad : Nat → Nat} {ca : Nat → ClassId} {ads : List Nat} {fu : Nat} (htr : l.stackTraces = false) (C : xk_C D kx_cl (kx_ty ca) (kw_m ad ca) ads "ModuleHouseModel" prog_14_method_135_code 6 (some .int) p e s m args meth c) (hne : c.exceptionTable.isEmpty = true) {u' : xk_St} {r : Int32} {k4 : Int32 → Int32 → Int32 → xk_St → Option (Int32 × xk_St)} (hk4 : ∀ (c0 : Int32) (c1 : Int32) (c2 : Int32) (u : xk_St) (H : Heap) (locs : List Loc) (ls : Array Slot), k4 c0 c1 c2 u = some (r, u') → va_P D kx_cl (kw_m ad ca u) H → va_S (xk_A ads s.heap.size) s.heap H locs → lv_has ls 6 [(0, .ref (ad 0)), (1, .int c0), (2, .int c1), (3, .int c2)] → W p l e rm_Model_exportNamed s m args below meth c H locs 0 0 (xk_MQ below (xk_Qc D kx_cl (kw_m ad ca) ads (xo_i (.inl r)) u') args s (xk_A ads s.heap.size)) (F0 m 4 ls [])) : ∀ {n : Nat} {b1 : Int32} {b3 : Int32} {b4 : Int32} {b5 : Int32} {u : xk_St} {H : Heap} {locs : List Loc} {ls : Array Slot} (h : jb_Model_exportNamed_36 fu k4 n b1 b3 b4 b5 u = some (r, u')) (hP : va_P D kx_cl (kw_m ad ca u) H) (hS : va_S (xk_A ads s.heap.size) s.heap H locs) (hl : lv_has ls 6 [(0, .ref (ad 0)), (1, .int b1), (3, .int b3), (4, .int b4), (5, .int b5)]), W p l e rm_Model_exportNamed s m args below meth c H locs 0 0 (xk_MQ below (xk_Qc D kx_cl (kw_m ad ca) ads (xo_i (.inl r)) u') args s (xk_A ads s.heap.size)) (F0 m 36 ls []) := by
  intro n
  have hx := C.1.1
  have hb := C.1.2.1
  have hok := C.2.2.1
  induction n with
  | zero =>
    intro _ _ _ _ u H locs ls h
    have h : none = some (r, u') := h
    cases h
  | succ n ih =>
    intro b1 b3 b4 b5 u H locs ls h hP hS hl
    unfold jb_Model_exportNamed_36 at h
    obtain ⟨k36, ek36, h⟩ := xp_let h
    have hk36 : ∀ (c0 : Int32) (c1 : Int32) (c2 : Int32) (c3 : Int32) (u : xk_St) (H : Heap) (locs : List Loc) (ls : Array Slot), k36 c0 c1 c2 c3 u = some (r, u') → va_P D kx_cl (kw_m ad ca u) H → va_S (xk_A ads s.heap.size) s.heap H locs → lv_has ls 6 [(0, .ref (ad 0)), (1, .int c0), (3, .int c1), (4, .int c2), (5, .int c3)] → W p l e rm_Model_exportNamed s m args below meth c H locs 0 0 (xk_MQ below (xk_Qc D kx_cl (kw_m ad ca) ads (xo_i (.inl r)) u') args s (xk_A ads s.heap.size)) (F0 m 36 ls []) := by
      intro c0 c1 c2 c3 u H locs ls h hP hS hl
      subst ek36
      exact ih h hP hS hl
    clear ih ek36
    refine lv_iload hx hb dd_Model_exportNamed_36 (lv_at hl 4 rfl) ?_
    refine lv_iload_n hx hb dd_Model_exportNamed_38 rfl (lv_at hl 1 rfl) ?_
    refine lv_icmp_ge (tgt := 84) hx hb dd_Model_exportNamed_39 (by decide) (fun hc => ?_) (fun hc => ?_)
    · have h := xp_t hc h
      exact wj_Model_exportNamed_84 htr C hne hk4 h hP hS (lv_sub hl [0, 1, 2, 3] rfl)
    · have h := xp_f hc h
      refine lv_iload hx hb dd_Model_exportNamed_42 (lv_at hl 3 rfl) ?_
      refine lv_if_eq (tgt := 84) hx hb dd_Model_exportNamed_44 (by decide) (fun hc => ?_) (fun hc => ?_)
      · have h := xp_t hc h
        exact wj_Model_exportNamed_84 htr C hne hk4 h hP hS (lv_sub hl [0, 1, 2, 3] rfl)
      · have h := xp_f hc h
        refine lv_aload_n hx hb dd_Model_exportNamed_47 rfl (lv_at hl 0 rfl) ?_
        refine gf_m_Model_0_code C hP dd_Model_exportNamed_48 ?_
        refine lv_aload_n hx hb dd_Model_exportNamed_51 rfl (lv_at hl 0 rfl) ?_
        refine gf_m_Model_0_nameAt C hP dd_Model_exportNamed_52 ?_
        refine lv_iload_n hx hb dd_Model_exportNamed_55 rfl (lv_at hl 2 rfl) ?_
        obtain ⟨hi, h⟩ := xp_g h
        refine al_m_18 C hP hi dd_Model_exportNamed_56 ?_
        refine lv_iload hx hb dd_Model_exportNamed_57 (lv_at hl 4 rfl) ?_
        refine lv_iadd hx hb dd_Model_exportNamed_59 ?_
        obtain ⟨hi, h⟩ := xp_g h
        refine al_m_3 C hP hi dd_Model_exportNamed_60 ?_
        refine lv_aload_n hx hb dd_Model_exportNamed_61 rfl (lv_at hl 0 rfl) ?_
        refine gf_m_Model_0_tape C hP dd_Model_exportNamed_62 ?_
        refine lv_iload hx hb dd_Model_exportNamed_65 (lv_at hl 4 rfl) ?_
        obtain ⟨hi, h⟩ := xp_g h
        refine al_m_1 C hP hi dd_Model_exportNamed_67 ?_
        refine lv_icmp_ne (tgt := 75) hx hb dd_Model_exportNamed_68 (by decide) (fun hc => ?_) (fun hc => ?_)
        · have h := xp_f hc h
          refine lv_iconst (v := 0) hx hb dd_Model_exportNamed_75 (by decide) ?_
          exact wj_Model_exportNamed_76 htr C hne hk4 hk36 h hP hS (lv_sub hl [0, 1, 2, 4] rfl)
        · have h := xp_t hc h
          refine lv_iconst (v := 1) hx hb dd_Model_exportNamed_71 (by decide) ?_
          refine lv_goto (tgt := 76) hx hb dd_Model_exportNamed_72 (by decide) ?_
          exact wj_Model_exportNamed_76 htr C hne hk4 hk36 h hP hS (lv_sub hl [0, 1, 2, 4] rfl)
set_option maxHeartbeats 4000000 in
set_option maxRecDepth 100000 in
theorem wj_Model_exportNamed_31 {p : Program} {l : Launch} {e : Env} {s : State} {m : MethodId} {args : Array Value} {below : List Frame} {meth : Method} {c : Code} {D : va_G} {ad : Nat → Nat} {ca : Nat → ClassId} {ads : List Nat} {fu : Nat} (htr : l.stackTraces = false) (C : xk_C D kx_cl (kx_ty ca) (kw_m ad ca) ads "ModuleHouseModel" prog_14_method_135_code 6 (some .int) p e s m args meth c) (hne : c.exceptionTable.isEmpty = true) {u' : xk_St} {r : Int32} {k4 : Int32 → Int32 → Int32 → xk_St → Option (Int32 × xk_St)} (hk4 : ∀ (c0 : Int32) (c1 : Int32) (c2 : Int32) (u : xk_St) (H : Heap) (locs : List Loc) (ls : Array Slot), k4 c0 c1 c2 u = some (r, u') → va_P D kx_cl (kw_m ad ca u) H → va_S (xk_A ads s.heap.size) s.heap H locs → lv_has ls 6 [(0, .ref (ad 0)), (1, .int c0), (2, .int c1), (3, .int c2)] → W p l e rm_Model_exportNamed s m args below meth c H locs 0 0 (xk_MQ below (xk_Qc D kx_cl (kw_m ad ca) ads (xo_i (.inl r)) u') args s (xk_A ads s.heap.size)) (F0 m 4 ls [])) {b1 : Int32} {b3 : Int32} {s0 : Int32} {u : xk_St} {H : Heap} {locs : List Loc} {ls : Array Slot} (h : jb_Model_exportNamed_31 fu k4 b1 b3 s0 u = some (r, u')) (hP : va_P D kx_cl (kw_m ad ca u) H) (hS : va_S (xk_A ads s.heap.size) s.heap H locs) (hl : lv_has ls 6 [(0, .ref (ad 0)), (1, .int b1), (3, .int b3)]) : W p l e rm_Model_exportNamed s m args below meth c H locs 0 0 (xk_MQ below (xk_Qc D kx_cl (kw_m ad ca) ads (xo_i (.inl r)) u') args s (xk_A ads s.heap.size)) (F0 m 31 ls [.int s0]) := by
  have hx := C.1.1
  have hb := C.1.2.1
  have hok := C.2.2.1
  unfold jb_Model_exportNamed_31 at h
  refine lv_istore (lv' := [(4, .int s0), (0, .ref (ad 0)), (1, .int b1), (3, .int b3)]) hx hb dd_Model_exportNamed_31 hl (by decide) rfl (fun ls hl => ?_)
  refine lv_iconst (v := 0) hx hb dd_Model_exportNamed_33 (by decide) ?_
  refine lv_istore (lv' := [(5, .int (0 : Int32)), (4, .int s0), (0, .ref (ad 0)), (1, .int b1), (3, .int b3)]) hx hb dd_Model_exportNamed_34 hl (by decide) rfl (fun ls hl => ?_)
  exact wj_Model_exportNamed_36 htr C hne hk4 h hP hS (lv_sub hl [2, 3, 4, 1, 0] rfl)
set_option maxHeartbeats 4000000 in
set_option maxRecDepth 100000 in
theorem wj_Model_exportNamed_4 {p : Program} {l : Launch} {e : Env} {s : State} {m : MethodId} {args : Array Value} {below : List Frame} {meth : Method} {c : Code} {D : va_G} {ad : Nat → Nat} {ca : Nat → ClassId} {ads : List Nat} {fu : Nat} (htr : l.stackTraces = false) (C : xk_C D kx_cl (kx_ty ca) (kw_m ad ca) ads "ModuleHouseModel" prog_14_method_135_code 6 (some .int) p e s m args meth c) (hne : c.exceptionTable.isEmpty = true) {u' : xk_St} {r : Int32} : ∀ {n : Nat} {b1 : Int32} {b2 : Int32} {b3 : Int32} {u : xk_St} {H : Heap} {locs : List Loc} {ls : Array Slot} (h : jb_Model_exportNamed_4 fu  n b1 b2 b3 u = some (r, u')) (hP : va_P D kx_cl (kw_m ad ca u) H) (hS : va_S (xk_A ads s.heap.size) s.heap H locs) (hl : lv_has ls 6 [(0, .ref (ad 0)), (1, .int b1), (2, .int b2), (3, .int b3)]), W p l e rm_Model_exportNamed s m args below meth c H locs 0 0 (xk_MQ below (xk_Qc D kx_cl (kw_m ad ca) ads (xo_i (.inl r)) u') args s (xk_A ads s.heap.size)) (F0 m 4 ls []) := by
  intro n
  have hx := C.1.1
  have hb := C.1.2.1
  have hok := C.2.2.1
  induction n with
  | zero =>
    intro _ _ _ u H locs ls h
    have h : none = some (r, u') := h
    cases h
  | succ n ih =>
    intro b1 b2 b3 u H locs ls h hP hS hl
    unfold jb_Model_exportNamed_4 at h
    obtain ⟨k4, ek4, h⟩ := xp_let h
    have hk4 : ∀ (c0 : Int32) (c1 : Int32) (c2 : Int32) (u : xk_St) (H : Heap) (locs : List Loc) (ls : Array Slot), k4 c0 c1 c2 u = some (r, u') → va_P D kx_cl (kw_m ad ca u) H → va_S (xk_A ads s.heap.size) s.heap H locs → lv_has ls 6 [(0, .ref (ad 0)), (1, .int c0), (2, .int c1), (3, .int c2)] → W p l e rm_Model_exportNamed s m args below meth c H locs 0 0 (xk_MQ below (xk_Qc D kx_cl (kw_m ad ca) ads (xo_i (.inl r)) u') args s (xk_A ads s.heap.size)) (F0 m 4 ls []) := by
      intro c0 c1 c2 u H locs ls h hP hS hl
      subst ek4
      exact ih h hP hS hl
    clear ih ek4
    refine lv_iload_n hx hb dd_Model_exportNamed_4 rfl (lv_at hl 3 rfl) ?_
    refine lv_aload_n hx hb dd_Model_exportNamed_5 rfl (lv_at hl 0 rfl) ?_
    refine gf_m_Model_0_exports C hP dd_Model_exportNamed_6 ?_
    refine lv_icmp_ge (tgt := 101) hx hb dd_Model_exportNamed_9 (by decide) (fun hc => ?_) (fun hc => ?_)
    · have h := xp_t hc h
      refine lv_iload_n hx hb dd_Model_exportNamed_101 rfl (lv_at hl 2 rfl) ?_
      obtain ⟨rfl, rfl⟩ := xp_r h
      exact xr_iret C hP hS dd_Model_exportNamed_102
    · have h := xp_f hc h
      refine lv_iload_n hx hb dd_Model_exportNamed_12 rfl (lv_at hl 2 rfl) ?_
      refine lv_if_ge (tgt := 101) hx hb dd_Model_exportNamed_13 (by decide) (fun hc => ?_) (fun hc => ?_)
      · have h := xp_t hc h
        refine lv_iload_n hx hb dd_Model_exportNamed_101 rfl (lv_at hl 2 rfl) ?_
        obtain ⟨rfl, rfl⟩ := xp_r h
        exact xr_iret C hP hS dd_Model_exportNamed_102
      · have h := xp_f hc h
        refine lv_aload_n hx hb dd_Model_exportNamed_16 rfl (lv_at hl 0 rfl) ?_
        refine gf_m_Model_0_nameMany C hP dd_Model_exportNamed_17 ?_
        refine lv_iload_n hx hb dd_Model_exportNamed_20 rfl (lv_at hl 3 rfl) ?_
        obtain ⟨hi, h⟩ := xp_g h
        refine al_m_19 C hP hi dd_Model_exportNamed_21 ?_
        refine lv_iload_n hx hb dd_Model_exportNamed_22 rfl (lv_at hl 1 rfl) ?_
        refine lv_icmp_ne (tgt := 30) hx hb dd_Model_exportNamed_23 (by decide) (fun hc => ?_) (fun hc => ?_)
        · have h := xp_f hc h
          refine lv_iconst (v := 0) hx hb dd_Model_exportNamed_30 (by decide) ?_
          exact wj_Model_exportNamed_31 htr C hne hk4 h hP hS (lv_sub hl [0, 1, 3] rfl)
        · have h := xp_t hc h
          refine lv_iconst (v := 1) hx hb dd_Model_exportNamed_26 (by decide) ?_
          refine lv_goto (tgt := 31) hx hb dd_Model_exportNamed_27 (by decide) ?_
          exact wj_Model_exportNamed_31 htr C hne hk4 h hP hS (lv_sub hl [0, 1, 3] rfl)
set_option maxHeartbeats 4000000 in
set_option maxRecDepth 100000 in
theorem ct_Model_exportNamed {l : Launch} {D : va_G} {ad : Nat → Nat} {ca : Nat → ClassId} {ads : List Nat} (htr : l.stackTraces = false) (hok : xk_ok (kw_m ad ca) ads) {fu : Nat} {x0 : Int32} {u u' : xk_St} {r : Int32} (h : fm_Model_exportNamed fu x0 u = some (r, u')) :
    ∀ sz, xk_Met l ⟨"ModuleHouseModel", "exportNamed", "(I)I"⟩ (Cond.code ⟨"ModuleHouseModel", "exportNamed", "(I)I"⟩ prog_14_method_135_code 6 (some .int) :: xk_gd) rm_Model_exportNamed (xk_Pc D kx_cl (kx_ty ca) (kw_m ad ca) ads xk_F sz [.ref (ad 0), .int x0] u) (xk_Qc D kx_cl (kw_m ad ca) ads (xo_i (.inl r)) u') (xk_A ads sz) := by
  unfold fm_Model_exportNamed at h
  refine xk_con (by decide) htr hok (Nat.le_of_ble_eq_true rfl) (fun p e s m below meth c ls C hne hl hP => ?_)
  have hx := C.1.1
  have hb := C.1.2.1
  have hS : va_S (xk_A ads s.heap.size) s.heap s.heap [] := va_S.rf
  have hl : lv_has ls 6 [(0, .ref (ad 0)), (1, .int x0)] := hl
  refine lv_iconst (v := (-1)) hx hb dd_Model_exportNamed_0 (by decide) ?_
  refine lv_istore_n (lv' := [(2, .int (-1 : Int32)), (0, .ref (ad 0)), (1, .int x0)]) hx hb dd_Model_exportNamed_1 rfl hl (by decide) rfl (fun ls hl => ?_)
  refine lv_iconst (v := 0) hx hb dd_Model_exportNamed_2 (by decide) ?_
  refine lv_istore_n (lv' := [(3, .int (0 : Int32)), (2, .int (-1 : Int32)), (0, .ref (ad 0)), (1, .int x0)]) hx hb dd_Model_exportNamed_3 rfl hl (by decide) rfl (fun ls hl => ?_)
  exact wj_Model_exportNamed_4 htr C hne h hP hS (lv_sub hl [2, 3, 1, 0] rfl)
