theorem kq_House_70 : xk_wV "ModuleHouse" 70 (⟨"ModuleHouse$ReadModule", "clear", "()V"⟩ : MethodName) prog_8_method_2_code 1 none 0 := ⟨xk_c3 (w := Cond.methodLink "ModuleHouse" 70 (⟨"ModuleHouse$ReadModule", "clear", "()V"⟩ : MethodName)) 27 rfl rfl, xk_c3 (w := Cond.instanceMethod (⟨"ModuleHouse$ReadModule", "clear", "()V"⟩ : MethodName)) 28 rfl rfl, xk_c3 (w := Cond.selects "ModuleHouse$ReadModule" (⟨"ModuleHouse$ReadModule", "clear", "()V"⟩ : MethodName) (⟨"ModuleHouse$ReadModule", "clear", "()V"⟩ : MethodName)) 29 rfl rfl, xk_c3 (w := Cond.code (⟨"ModuleHouse$ReadModule", "clear", "()V"⟩ : MethodName) prog_8_method_2_code 1 none) 30 rfl rfl, xk_c1 (w := Cond.initialized "ModuleHouse$ReadModule") 2 rfl rfl, by decide, by decide +kernel⟩
theorem kq_House_73 : xk_wV "ModuleHouse" 73 (⟨"ModuleHouse$Machine", "clear", "()V"⟩ : MethodName) prog_5_method_2_code 1 none 0 := ⟨xk_c3 (w := Cond.methodLink "ModuleHouse" 73 (⟨"ModuleHouse$Machine", "clear", "()V"⟩ : MethodName)) 31 rfl rfl, xk_c3 (w := Cond.instanceMethod (⟨"ModuleHouse$Machine", "clear", "()V"⟩ : MethodName)) 32 rfl rfl, xk_c3 (w := Cond.selects "ModuleHouse$Machine" (⟨"ModuleHouse$Machine", "clear", "()V"⟩ : MethodName) (⟨"ModuleHouse$Machine", "clear", "()V"⟩ : MethodName)) 33 rfl rfl, xk_c3 (w := Cond.code (⟨"ModuleHouse$Machine", "clear", "()V"⟩ : MethodName) prog_5_method_2_code 1 none) 34 rfl rfl, xk_c1 (w := Cond.initialized "ModuleHouse$Machine") 8 rfl rfl, by decide, by decide +kernel⟩
theorem kq_House_74 : xk_wV "ModuleHouse" 74 (⟨"ModuleHouse$Reader", "readModule", "([BI)V"⟩ : MethodName) prog_9_method_2_code 7 none 2 := ⟨xk_c4 (w := Cond.methodLink "ModuleHouse" 74 (⟨"ModuleHouse$Reader", "readModule", "([BI)V"⟩ : MethodName)) 116 rfl rfl, xk_c4 (w := Cond.instanceMethod (⟨"ModuleHouse$Reader", "readModule", "([BI)V"⟩ : MethodName)) 117 rfl rfl, xk_c4 (w := Cond.selects "ModuleHouse$Reader" (⟨"ModuleHouse$Reader", "readModule", "([BI)V"⟩ : MethodName) (⟨"ModuleHouse$Reader", "readModule", "([BI)V"⟩ : MethodName)) 118 rfl rfl, xk_c4 (w := Cond.code (⟨"ModuleHouse$Reader", "readModule", "([BI)V"⟩ : MethodName) prog_9_method_2_code 7 none) 119 rfl rfl, xk_c1 (w := Cond.initialized "ModuleHouse$Reader") 6 rfl rfl, by decide, by decide +kernel⟩
theorem kq_House_80 : xk_wV "ModuleHouse" 80 (⟨"ModuleHouse$Checker", "checkParts", "()V"⟩ : MethodName) prog_2_method_3_code 1 none 0 := ⟨xk_c5 (w := Cond.methodLink "ModuleHouse" 80 (⟨"ModuleHouse$Checker", "checkParts", "()V"⟩ : MethodName)) 69 rfl rfl, xk_c5 (w := Cond.instanceMethod (⟨"ModuleHouse$Checker", "checkParts", "()V"⟩ : MethodName)) 70 rfl rfl, xk_c5 (w := Cond.selects "ModuleHouse$Checker" (⟨"ModuleHouse$Checker", "checkParts", "()V"⟩ : MethodName) (⟨"ModuleHouse$Checker", "checkParts", "()V"⟩ : MethodName)) 71 rfl rfl, xk_c5 (w := Cond.code (⟨"ModuleHouse$Checker", "checkParts", "()V"⟩ : MethodName) prog_2_method_3_code 1 none) 72 rfl rfl, xk_c1 (w := Cond.initialized "ModuleHouse$Checker") 7 rfl rfl, by decide, by decide +kernel⟩
theorem kq_House_96 : xk_wV "ModuleHouse" 96 (⟨"ModuleHouse$Machine", "begin", "()I"⟩ : MethodName) prog_5_method_3_code 2 (some .int) 0 := ⟨xk_c6 (w := Cond.methodLink "ModuleHouse" 96 (⟨"ModuleHouse$Machine", "begin", "()I"⟩ : MethodName)) 119 rfl rfl, xk_c6 (w := Cond.instanceMethod (⟨"ModuleHouse$Machine", "begin", "()I"⟩ : MethodName)) 120 rfl rfl, xk_c6 (w := Cond.selects "ModuleHouse$Machine" (⟨"ModuleHouse$Machine", "begin", "()I"⟩ : MethodName) (⟨"ModuleHouse$Machine", "begin", "()I"⟩ : MethodName)) 121 rfl rfl, xk_c6 (w := Cond.code (⟨"ModuleHouse$Machine", "begin", "()I"⟩ : MethodName) prog_5_method_3_code 2 (some .int)) 122 rfl rfl, xk_c1 (w := Cond.initialized "ModuleHouse$Machine") 8 rfl rfl, by decide, by decide +kernel⟩
theorem kq_House_92 : xk_wV "ModuleHouse" 92 (⟨"ModuleHouse$Checker", "checkBody", "(I)V"⟩ : MethodName) prog_2_method_12_code 5 none 1 := ⟨xk_c5 (w := Cond.methodLink "ModuleHouse" 92 (⟨"ModuleHouse$Checker", "checkBody", "(I)V"⟩ : MethodName)) 157 rfl rfl, xk_c5 (w := Cond.instanceMethod (⟨"ModuleHouse$Checker", "checkBody", "(I)V"⟩ : MethodName)) 158 rfl rfl, xk_c5 (w := Cond.selects "ModuleHouse$Checker" (⟨"ModuleHouse$Checker", "checkBody", "(I)V"⟩ : MethodName) (⟨"ModuleHouse$Checker", "checkBody", "(I)V"⟩ : MethodName)) 159 rfl rfl, xk_c5 (w := Cond.code (⟨"ModuleHouse$Checker", "checkBody", "(I)V"⟩ : MethodName) prog_2_method_12_code 5 none) 160 rfl rfl, xk_c1 (w := Cond.initialized "ModuleHouse$Checker") 7 rfl rfl, by decide, by decide +kernel⟩
theorem kq_Law_7 : xk_wV "ModuleHouseLaw" 7 (⟨"ModuleHouse", "feed", "(IJ)I"⟩ : MethodName) prog_1_method_2_code 5 (some .int) 2 := ⟨xk_c7 (w := Cond.methodLink "ModuleHouseLaw" 7 (⟨"ModuleHouse", "feed", "(IJ)I"⟩ : MethodName)) 163 rfl rfl, xk_c7 (w := Cond.instanceMethod (⟨"ModuleHouse", "feed", "(IJ)I"⟩ : MethodName)) 164 rfl rfl, xk_c7 (w := Cond.selects "ModuleHouse" (⟨"ModuleHouse", "feed", "(IJ)I"⟩ : MethodName) (⟨"ModuleHouse", "feed", "(IJ)I"⟩ : MethodName)) 165 rfl rfl, xk_c7 (w := Cond.code (⟨"ModuleHouse", "feed", "(IJ)I"⟩ : MethodName) prog_1_method_2_code 5 (some .int)) 166 rfl rfl, xk_c1 (w := Cond.initialized "ModuleHouse") 1 rfl rfl, by decide, by decide +kernel⟩
theorem kq_Law_17 : xk_wV "ModuleHouseLaw" 17 (⟨"ModuleHouse", "give", "(J)I"⟩ : MethodName) prog_1_method_4_code 3 (some .int) 1 := ⟨xk_c7 (w := Cond.methodLink "ModuleHouseLaw" 17 (⟨"ModuleHouse", "give", "(J)I"⟩ : MethodName)) 186 rfl rfl, xk_c7 (w := Cond.instanceMethod (⟨"ModuleHouse", "give", "(J)I"⟩ : MethodName)) 187 rfl rfl, xk_c7 (w := Cond.selects "ModuleHouse" (⟨"ModuleHouse", "give", "(J)I"⟩ : MethodName) (⟨"ModuleHouse", "give", "(J)I"⟩ : MethodName)) 188 rfl rfl, xk_c7 (w := Cond.code (⟨"ModuleHouse", "give", "(J)I"⟩ : MethodName) prog_1_method_4_code 3 (some .int)) 189 rfl rfl, xk_c1 (w := Cond.initialized "ModuleHouse") 1 rfl rfl, by decide, by decide +kernel⟩
theorem kq_Law_21 : xk_wV "ModuleHouseLaw" 21 (⟨"ModuleHouse", "call", "(I)I"⟩ : MethodName) prog_1_method_5_code 7 (some .int) 1 := ⟨xk_c7 (w := Cond.methodLink "ModuleHouseLaw" 21 (⟨"ModuleHouse", "call", "(I)I"⟩ : MethodName)) 193 rfl rfl, xk_c7 (w := Cond.instanceMethod (⟨"ModuleHouse", "call", "(I)I"⟩ : MethodName)) 194 rfl rfl, xk_c7 (w := Cond.selects "ModuleHouse" (⟨"ModuleHouse", "call", "(I)I"⟩ : MethodName) (⟨"ModuleHouse", "call", "(I)I"⟩ : MethodName)) 195 rfl rfl, xk_c7 (w := Cond.code (⟨"ModuleHouse", "call", "(I)I"⟩ : MethodName) prog_1_method_5_code 7 (some .int)) 196 rfl rfl, xk_c1 (w := Cond.initialized "ModuleHouse") 1 rfl rfl, by decide, by decide +kernel⟩
theorem kq_Law_25 : xk_wV "ModuleHouseLaw" 25 (⟨"ModuleHouse", "result", "(I)J"⟩ : MethodName) prog_1_method_12_code 2 (some .long) 1 := ⟨xk_c7 (w := Cond.methodLink "ModuleHouseLaw" 25 (⟨"ModuleHouse", "result", "(I)J"⟩ : MethodName)) 227 rfl rfl, xk_c7 (w := Cond.instanceMethod (⟨"ModuleHouse", "result", "(I)J"⟩ : MethodName)) 228 rfl rfl, xk_c7 (w := Cond.selects "ModuleHouse" (⟨"ModuleHouse", "result", "(I)J"⟩ : MethodName) (⟨"ModuleHouse", "result", "(I)J"⟩ : MethodName)) 229 rfl rfl, xk_c7 (w := Cond.code (⟨"ModuleHouse", "result", "(I)J"⟩ : MethodName) prog_1_method_12_code 2 (some .long)) 230 rfl rfl, xk_c1 (w := Cond.initialized "ModuleHouse") 1 rfl rfl, by decide, by decide +kernel⟩
theorem kq_Law_31 : xk_wV "ModuleHouseLaw" 31 (⟨"ModuleHouse", "global", "(I)J"⟩ : MethodName) prog_1_method_13_code 2 (some .long) 1 := ⟨xk_c8 (w := Cond.methodLink "ModuleHouseLaw" 31 (⟨"ModuleHouse", "global", "(I)J"⟩ : MethodName)) 9 rfl rfl, xk_c8 (w := Cond.instanceMethod (⟨"ModuleHouse", "global", "(I)J"⟩ : MethodName)) 10 rfl rfl, xk_c8 (w := Cond.selects "ModuleHouse" (⟨"ModuleHouse", "global", "(I)J"⟩ : MethodName) (⟨"ModuleHouse", "global", "(I)J"⟩ : MethodName)) 11 rfl rfl, xk_c8 (w := Cond.code (⟨"ModuleHouse", "global", "(I)J"⟩ : MethodName) prog_1_method_13_code 2 (some .long)) 12 rfl rfl, xk_c1 (w := Cond.initialized "ModuleHouse") 1 rfl rfl, by decide, by decide +kernel⟩
theorem kq_Law_34 : xk_wV "ModuleHouseLaw" 34 (⟨"ModuleHouse", "at", "(I)I"⟩ : MethodName) prog_1_method_14_code 2 (some .int) 1 := ⟨xk_c8 (w := Cond.methodLink "ModuleHouseLaw" 34 (⟨"ModuleHouse", "at", "(I)I"⟩ : MethodName)) 16 rfl rfl, xk_c8 (w := Cond.instanceMethod (⟨"ModuleHouse", "at", "(I)I"⟩ : MethodName)) 17 rfl rfl, xk_c8 (w := Cond.selects "ModuleHouse" (⟨"ModuleHouse", "at", "(I)I"⟩ : MethodName) (⟨"ModuleHouse", "at", "(I)I"⟩ : MethodName)) 18 rfl rfl, xk_c8 (w := Cond.code (⟨"ModuleHouse", "at", "(I)I"⟩ : MethodName) prog_1_method_14_code 2 (some .int)) 19 rfl rfl, xk_c1 (w := Cond.initialized "ModuleHouse") 1 rfl rfl, by decide, by decide +kernel⟩
theorem kq_Law_37 : xk_wV "ModuleHouseLaw" 37 (⟨"ModuleHouse", "look", "(I)I"⟩ : MethodName) prog_1_method_15_code 2 (some .int) 1 := ⟨xk_c8 (w := Cond.methodLink "ModuleHouseLaw" 37 (⟨"ModuleHouse", "look", "(I)I"⟩ : MethodName)) 25 rfl rfl, xk_c8 (w := Cond.instanceMethod (⟨"ModuleHouse", "look", "(I)I"⟩ : MethodName)) 26 rfl rfl, xk_c8 (w := Cond.selects "ModuleHouse" (⟨"ModuleHouse", "look", "(I)I"⟩ : MethodName) (⟨"ModuleHouse", "look", "(I)I"⟩ : MethodName)) 27 rfl rfl, xk_c8 (w := Cond.code (⟨"ModuleHouse", "look", "(I)I"⟩ : MethodName) prog_1_method_15_code 2 (some .int)) 28 rfl rfl, xk_c1 (w := Cond.initialized "ModuleHouse") 1 rfl rfl, by decide, by decide +kernel⟩
section
variable {p : Program} {l : Launch} {e : Env} {R : Room} {s : State} {m : MethodId} {args : Array Value} {below : List Frame} {meth : Method} {c : Code} {H : Heap} {locs : List Loc} {cells slots : Nat} {Q : State → Prop}
variable {pc nL : Nat} {ls : Array Slot} {rest : List Value} {D : va_G} {ad : Nat → Nat} {ca : Nat → ClassId} {ads : List Nat} {u : xk_St} {cc : ByteArray} {ret : Option FieldType}
theorem pf_h_House_0_there (C : xk_C D kx_cl (kx_ty ca) (kw_h ad ca) ads kc_House cc nL ret p e s m args meth c) (hP : va_P D kx_cl (kw_h ad ca u) H) (hS : va_S (xk_A ads s.heap.size) s.heap H locs) {x : Int32} (hz : x = 0 ∨ x = 1) (hdg : decode cc pc = .ok (.putfield 50, 3)) (kk : ∀ (H1 : Heap) (locs1 : List Loc), va_P D kx_cl (kw_h ad ca (xs_I u 4 x)) H1 → va_S (xk_A ads s.heap.size) s.heap H1 locs1 → W p l e R s m args below meth c H1 locs1 cells slots Q (F0 m (pc + 3) ls rest)) : W p l e R s m args below meth c H locs cells slots Q (F0 m pc ls (.int x :: .ref (ad 0) :: rest)) :=
  va_put (D := D) (ci := 0) (v := .int x) (ty := .boolean) (C := kc_House) (T := kf_House) (N := 12) C.1.1 C.1.2.1 C.1.2.2.2.2 ki_House kt_House ko_House kn_House C.1.2.2.2.1 C.2.1 hP (C.2.2.1.D (fun q h => Or.inl h) u) hS 0 rfl rfl 11 (by decide) (C.1.2.2.2.2 _ (xk_c2 (w := Cond.fieldLink kc_House 50 "ModuleHouse" "there" "Z") 235 rfl rfl)) (fun _ h => h) rfl (by decide +kernel) (by rcases hz with rfl | rfl <;> rfl) (by rcases hz with rfl | rfl <;> rfl) (Nat.le_of_ble_eq_true rfl) hdg (fun H1 locs1 hP1 _ hS1 => kk H1 locs1 hP1 hS1)
theorem gf_h_House_0_reader (C : xk_C D kx_cl (kx_ty ca) (kw_h ad ca) ads kc_House cc nL ret p e s m args meth c) (hP : va_P D kx_cl (kw_h ad ca u) H) (hdg : decode cc pc = .ok (.getfield 32, 3)) (kk : W p l e R s m args below meth c H locs cells slots Q (F0 m (pc + 3) ls (.ref (ad 54) :: rest))) : W p l e R s m args below meth c H locs cells slots Q (F0 m pc ls (.ref (ad 0) :: rest)) :=
  va_get (D := D) (ci := 0) (v := .ref (ad 54)) (C := kc_House) (T := kf_House) (N := 12) C.1.1 C.1.2.1 C.1.2.2.2.2 ki_House C.1.2.2.2.1 C.2.1 hP 0 rfl rfl 4 (by decide) (C.1.2.2.2.2 _ (xk_c2 (w := Cond.fieldLink kc_House 32 "ModuleHouse" "reader" "LModuleHouse$Reader;") 228 rfl rfl)) (fun _ h => h) rfl hdg kk
theorem gf_h_House_0_checker (C : xk_C D kx_cl (kx_ty ca) (kw_h ad ca) ads kc_House cc nL ret p e s m args meth c) (hP : va_P D kx_cl (kw_h ad ca u) H) (hdg : decode cc pc = .ok (.getfield 39, 3)) (kk : W p l e R s m args below meth c H locs cells slots Q (F0 m (pc + 3) ls (.ref (ad 55) :: rest))) : W p l e R s m args below meth c H locs cells slots Q (F0 m pc ls (.ref (ad 0) :: rest)) :=
  va_get (D := D) (ci := 0) (v := .ref (ad 55)) (C := kc_House) (T := kf_House) (N := 12) C.1.1 C.1.2.1 C.1.2.2.2.2 ki_House C.1.2.2.2.1 C.2.1 hP 0 rfl rfl 5 (by decide) (C.1.2.2.2.2 _ (xk_c2 (w := Cond.fieldLink kc_House 39 "ModuleHouse" "checker" "LModuleHouse$Checker;") 229 rfl rfl)) (fun _ h => h) rfl hdg kk
theorem gf_h_House_4_starter (C : xk_C D kx_cl (kx_ty ca) (kw_h ad ca) ads kc_House cc nL ret p e s m args meth c) (hP : va_P D kx_cl (kw_h ad ca u) H) (hdg : decode cc pc = .ok (.getfield 100, 3)) (kk : W p l e R s m args below meth c H locs cells slots Q (F0 m (pc + 3) ls (.int (u.1 6) :: rest))) : W p l e R s m args below meth c H locs cells slots Q (F0 m pc ls (.ref (ad 4) :: rest)) :=
  va_get (D := D) (ci := 6) (v := .int (u.1 6)) (C := kc_Mod) (T := kf_Mod) (N := 12) C.1.1 C.1.2.1 C.1.2.2.2.2 ki_Mod C.1.2.2.2.1 C.2.1 hP 4 rfl rfl 11 (by decide) (C.1.2.2.2.2 _ (xk_c1 (w := Cond.fieldLink kc_House 100 "ModuleHouse$ReadModule" "starter" "I") 229 rfl rfl)) (fun _ h => h) rfl hdg kk
theorem as_h_83 {own : String} (C : xk_C D kx_cl (kx_ty ca) (kw_h ad ca) ads own cc nL ret p e s m args meth c) (hP : va_P D kx_cl (kw_h ad ca u) H) (hS : va_S (xk_A ads s.heap.size) s.heap H locs) {i : Int32} {x : Int64} (hin : ¬ (i < 0 ∨ 1 ≤ i.toNatClampNeg)) (hdg : decode cc pc = .ok (.lastore, 1)) (kk : ∀ (H1 : Heap) (locs1 : List Loc), va_P D kx_cl (kw_h ad ca (xs_B u 13 i.toNatClampNeg x)) H1 → va_S (xk_A ads s.heap.size) s.heap H1 locs1 → W p l e R s m args below meth c H1 locs1 cells slots Q (F0 m (pc + 1) ls rest)) : W p l e R s m args below meth c H locs cells slots Q (F0 m pc ls (.long x :: .int i :: .ref (ad 83) :: rest)) :=
  va_last C.1.1 C.1.2.1 C.2.1 hP (C.2.2.1.D (fun q h => Or.inl h) u) hS 83 2 rfl rfl hin hdg (fun H1 locs1 hP1 _ hS1 => kk H1 locs1 hP1 hS1)
end
abbrev rm_House_load : Room := { frames := 14, cells := 1, slots := 6, locals := 294 }
noncomputable def jb_House_load_162 (fu : Nat) (b2 : Int32) (u : xk_St) : Option (Int32 × xk_St) :=
  (xs_let (xs_I u 28 (0 : Int32)) fun u19 => some (b2, u19))
noncomputable def jb_House_load_70 (fu : Nat) : Nat → Int32 → xk_St → Option (Int32 × xk_St)
  | 0 => fun _ _ => none
  | n + 1 => fun b2 u =>
    xs_let (jb_House_load_70 fu  n) fun k70 =>
    if (u.1 10) ≤ b2 then ((xs_let (xs_I u 4 (1 : Int32)) fun u16 => xs_seq (fm_Machine_begin fu u16) fun a17 u18 => if a17 = (0 : Int32) then (if (u18.1 6) = (-1 : Int32) then (jb_House_load_162 fu a17 u18) else ((xs_seq (fm_Machine_run fu (u18.1 6) (1000 : Int32) u18) fun a20 u21 => xs_let (xs_I u21 3 (u21.1 23)) fun u22 => jb_House_load_162 fu a20 u22))) else (jb_House_load_162 fu a17 u18))) else ((xs_cat (fm_Checker_checkBody fu b2 u) (fun k24 u25 => if k24 = 0 then (some ((-2 : Int32), u25)) else none) fun _ u23 => xs_let (b2 + (1 : Int32)) fun a27 => k70 a27 u23))
noncomputable def fm_House_load (fu : Nat) (u : xk_St) : Option (Int32 × xk_St) :=
  (xs_let (u.1 0) fun a1 => xs_let (xs_I u 0 (0 : Int32)) fun u2 => xs_let (xs_I u2 2 (0 : Int32)) fun u3 => xs_let (xs_I u3 3 (0 : Int32)) fun u4 => xs_let (xs_I u4 4 (0 : Int32)) fun u5 => xs_seq (fm_Mod_clear u5) fun _ u6 => xs_seq (fm_Machine_clear fu u6) fun _ u7 => xs_cat (fm_Reader_readModule fu a1 u7) (fun k9 u10 => if k9 = 0 then (some ((-1 : Int32), u10)) else if k9 = 1 then (some ((-3 : Int32), u10)) else none) fun _ u8 => xs_cat (fm_Checker_checkParts fu u8) (fun k13 u14 => if k13 = 0 then (some ((-2 : Int32), u14)) else none) fun _ u12 => jb_House_load_70 fu fu (0 : Int32) u12)
set_option maxHeartbeats 4000000 in
set_option maxRecDepth 100000 in
theorem wj_House_load_162 {p : Program} {l : Launch} {e : Env} {s : State} {m : MethodId} {args : Array Value} {below : List Frame} {meth : Method} {c : Code} {D : va_G} {ad : Nat → Nat} {ca : Nat → ClassId} {ads : List Nat} {fu : Nat} (htr : l.stackTraces = false) (C : xk_C D kx_cl (kx_ty ca) (kw_h ad ca) ads "ModuleHouse" prog_1_method_3_code 3 (some .int) p e s m args meth c) (hne : c.exceptionTable.toList = [⟨39, 51, 54, 54⟩, ⟨39, 51, 57, 78⟩, ⟨61, 98, 101, 54⟩]) {u' : xk_St} {r : Int32} {b2 : Int32} {u : xk_St} {H : Heap} {locs : List Loc} {ls : Array Slot} (h : jb_House_load_162 fu  b2 u = some (r, u')) (hP : va_P D kx_cl (kw_h ad ca u) H) (hS : va_S (xk_A ads s.heap.size) s.heap H locs) (hl : lv_has ls 3 [(0, .ref (ad 0)), (2, .int b2)]) : W p l e rm_House_load s m args below meth c H locs 0 0 (MQ below (xk_Qc D kx_cl (kw_h ad ca) ads (xo_i (.inl r)) u') args s 1 6 (xk_A ads s.heap.size)) (F0 m 162 ls []) := by
  have hx := C.1.1
  have hb := C.1.2.1
  have hok := C.2.2.1
  unfold jb_House_load_162 at h
  refine lv_aload_n hx hb dd_House_load_162 rfl (lv_at hl 0 rfl) ?_
  refine gf_h_House_0_machine C hP dd_House_load_163 ?_
  refine gf_h_House_60_values C hP dd_House_load_166 ?_
  refine lv_iconst (v := 0) hx hb dd_House_load_169 (by decide) ?_
  refine pf_h_House_61_top C hP hS dd_House_load_170 (fun H locs hP hS => ?_)
  obtain ⟨u19, eu19, h⟩ := xp_let h
  rw [← eu19] at hP
  refine lv_iload_n hx hb dd_House_load_173 rfl (lv_at hl 1 rfl) ?_
  obtain ⟨rfl, rfl⟩ := xp_r h
  exact xh_iret C hP hS (Nat.le_of_ble_eq_true rfl) (Nat.le_of_ble_eq_true rfl) dd_House_load_174
set_option maxHeartbeats 4000000 in
set_option maxRecDepth 100000 in
theorem wj_House_load_70 {p : Program} {l : Launch} {e : Env} {s : State} {m : MethodId} {args : Array Value} {below : List Frame} {meth : Method} {c : Code} {D : va_G} {ad : Nat → Nat} {ca : Nat → ClassId} {ads : List Nat} {fu : Nat} (htr : l.stackTraces = false) (C : xk_C D kx_cl (kx_ty ca) (kw_h ad ca) ads "ModuleHouse" prog_1_method_3_code 3 (some .int) p e s m args meth c) (hne : c.exceptionTable.toList = [⟨39, 51, 54, 54⟩, ⟨39, 51, 57, 78⟩, ⟨61, 98, 101, 54⟩]) {u' : xk_St} {r : Int32} : ∀ {n : Nat} {b2 : Int32} {u : xk_St} {H : Heap} {locs : List Loc} {ls : Array Slot} (h : jb_House_load_70 fu  n b2 u = some (r, u')) (hP : va_P D kx_cl (kw_h ad ca u) H) (hS : va_S (xk_A ads s.heap.size) s.heap H locs) (hl : lv_has ls 3 [(0, .ref (ad 0)), (2, .int b2)]), W p l e rm_House_load s m args below meth c H locs 0 0 (MQ below (xk_Qc D kx_cl (kw_h ad ca) ads (xo_i (.inl r)) u') args s 1 6 (xk_A ads s.heap.size)) (F0 m 70 ls []) := by
  intro n
  have hx := C.1.1
  have hb := C.1.2.1
  have hok := C.2.2.1
  induction n with
  | zero =>
    intro _ u H locs ls h
    have h : none = some (r, u') := h
    cases h
  | succ n ih =>
    intro b2 u H locs ls h hP hS hl
    unfold jb_House_load_70 at h
    obtain ⟨k70, ek70, h⟩ := xp_let h
    have hk70 : ∀ (c0 : Int32) (u : xk_St) (H : Heap) (locs : List Loc) (ls : Array Slot), k70 c0 u = some (r, u') → va_P D kx_cl (kw_h ad ca u) H → va_S (xk_A ads s.heap.size) s.heap H locs → lv_has ls 3 [(0, .ref (ad 0)), (2, .int c0)] → W p l e rm_House_load s m args below meth c H locs 0 0 (MQ below (xk_Qc D kx_cl (kw_h ad ca) ads (xo_i (.inl r)) u') args s 1 6 (xk_A ads s.heap.size)) (F0 m 70 ls []) := by
      intro c0 u H locs ls h hP hS hl
      subst ek70
      exact ih h hP hS hl
    clear ih ek70
    refine lv_iload_n hx hb dd_House_load_70 rfl (lv_at hl 1 rfl) ?_
    refine lv_aload_n hx hb dd_House_load_71 rfl (lv_at hl 0 rfl) ?_
    refine gf_h_House_0_module C hP dd_House_load_72 ?_
    refine gf_h_House_4_functions C hP dd_House_load_75 ?_
    refine gf_h_House_19_count C hP dd_House_load_78 ?_
    refine lv_icmp_ge (tgt := 98) hx hb dd_House_load_81 (by decide) (fun hc => ?_) (fun hc => ?_)
    · have h := xp_t hc h
      refine lv_goto (tgt := 105) hx hb dd_House_load_98 (by decide) ?_
      refine lv_aload_n hx hb dd_House_load_105 rfl (lv_at hl 0 rfl) ?_
      refine lv_iconst (v := 1) hx hb dd_House_load_106 (by decide) ?_
      refine pf_h_House_0_there C hP hS (by decide) dd_House_load_107 (fun H locs hP hS => ?_)
      obtain ⟨u16, eu16, h⟩ := xp_let h
      rw [← eu16] at hP
      refine lv_aload_n hx hb dd_House_load_110 rfl (lv_at hl 0 rfl) ?_
      refine gf_h_House_0_machine C hP dd_House_load_111 ?_
      obtain ⟨a17, u18, hq, h⟩ := xp_seq h
      refine xk_goesI (xr_V (As := []) (rest := []) C hP hS (ct_Machine_begin htr hok hq) kq_House_96 60 4 rfl rfl ⟨rfl, rfl, Nat.le_of_ble_eq_true rfl, Nat.le_of_ble_eq_true rfl⟩ ⟨Nat.le_of_ble_eq_true rfl, Nat.le_of_ble_eq_true rfl⟩ hl.1 rfl rfl (Nat.le_of_ble_eq_true rfl) dd_House_load_114) hS (fun H locs hP hS => ?_)
      clear hq
      refine lv_istore_n (lv' := [(2, .int a17), (0, .ref (ad 0))]) hx hb dd_House_load_117 rfl hl (by decide) rfl (fun ls hl => ?_)
      refine lv_iload_n hx hb dd_House_load_118 rfl (lv_at hl 0 rfl) ?_
      refine lv_if_ne (tgt := 162) hx hb dd_House_load_119 (by decide) (fun hc => ?_) (fun hc => ?_)
      · have h := xp_f hc h
        exact wj_House_load_162 htr C hne h hP hS (lv_sub hl [1, 0] rfl)
      · have h := xp_t hc h
        refine lv_aload_n hx hb dd_House_load_122 rfl (lv_at hl 1 rfl) ?_
        refine gf_h_House_0_module C hP dd_House_load_123 ?_
        refine gf_h_House_4_starter C hP dd_House_load_126 ?_
        refine lv_iconst (v := (-1)) hx hb dd_House_load_129 (by decide) ?_
        refine lv_icmp_eq (tgt := 162) hx hb dd_House_load_130 (by decide) (fun hc => ?_) (fun hc => ?_)
        · have h := xp_t hc h
          exact wj_House_load_162 htr C hne h hP hS (lv_sub hl [1, 0] rfl)
        · have h := xp_f hc h
          refine lv_aload_n hx hb dd_House_load_133 rfl (lv_at hl 1 rfl) ?_
          refine gf_h_House_0_machine C hP dd_House_load_134 ?_
          refine lv_aload_n hx hb dd_House_load_137 rfl (lv_at hl 1 rfl) ?_
          refine gf_h_House_0_module C hP dd_House_load_138 ?_
          refine gf_h_House_4_starter C hP dd_House_load_141 ?_
          refine lv_sipush (v := 1000) hx hb dd_House_load_144 (by decide) ?_
          obtain ⟨a20, u21, hq, h⟩ := xp_seq h
          refine xk_goesI (xr_V (As := [.int (u18.1 6), .int (1000 : Int32)]) (rest := []) C hP hS (ct_Machine_run htr hok hq) kq_House_103 60 4 rfl rfl ⟨rfl, rfl, Nat.le_of_ble_eq_true rfl, Nat.le_of_ble_eq_true rfl⟩ ⟨Nat.le_of_ble_eq_true rfl, Nat.le_of_ble_eq_true rfl⟩ hl.1 rfl rfl (Nat.le_of_ble_eq_true rfl) dd_House_load_147) hS (fun H locs hP hS => ?_)
          clear hq
          refine lv_istore_n (lv' := [(2, .int a20), (0, .ref (ad 0))]) hx hb dd_House_load_150 rfl hl (by decide) rfl (fun ls hl => ?_)
          refine lv_aload_n hx hb dd_House_load_151 rfl (lv_at hl 1 rfl) ?_
          refine lv_aload_n hx hb dd_House_load_152 rfl (lv_at hl 1 rfl) ?_
          refine gf_h_House_0_machine C hP dd_House_load_153 ?_
          refine gf_h_House_60_turns C hP dd_House_load_156 ?_
          refine pf_h_House_0_turnsLeft C hP hS dd_House_load_159 (fun H locs hP hS => ?_)
          obtain ⟨u22, eu22, h⟩ := xp_let h
          rw [← eu22] at hP
          exact wj_House_load_162 htr C hne h hP hS (lv_sub hl [1, 0] rfl)
    · have h := xp_f hc h
      refine lv_aload_n hx hb dd_House_load_84 rfl (lv_at hl 0 rfl) ?_
      refine gf_h_House_0_checker C hP dd_House_load_85 ?_
      refine lv_iload_n hx hb dd_House_load_88 rfl (lv_at hl 1 rfl) ?_
      rcases xp_cat h with ⟨rx, u23, hq, h⟩ | ⟨k24, u25, hq, h⟩
      rotate_left
      · by_cases hk2 : k24 = 0
        · have h := xp_t hk2 h
          subst hk2
          refine xk_catch (own := "ModuleHouse") (xr_V (As := [.int b2]) (rest := []) C hP hS (ct_Checker_checkBody htr hok hq) kq_House_92 55 1 rfl rfl ⟨rfl, rfl, Nat.le_of_ble_eq_true rfl, Nat.le_of_ble_eq_true rfl⟩ ⟨Nat.le_of_ble_eq_true rfl, Nat.le_of_ble_eq_true rfl⟩ hl.1 rfl rfl (Nat.le_of_ble_eq_true rfl) dd_House_load_89) hS C.1.2.2.2.1 [⟨39, 51, 54, 54⟩, ⟨39, 51, 57, 78⟩] ⟨61, 98, 101, 54⟩ [] hne (List.forall_mem_cons.mpr ⟨xh_skip (by decide), List.forall_mem_cons.mpr ⟨xh_skip (by decide), fun y hy => absurd hy List.not_mem_nil⟩⟩) (by decide) (by decide) (C.1.2.2.2.2 _ (xk_c3 (w := Cond.classLink "ModuleHouse" 54 (xk_E 0)) 25 rfl rfl)) (C.2.2.2.1.1 _ (List.mem_append_right _ (xm_3 (w := Cond.castable (xk_E 0) (xk_E 0)) 51 rfl)) rfl) (fun q26 H locs hP hS => ?_)
          refine lv_astore_n (lv' := [(2, .ref q26), (0, .ref (ad 0))]) hx hb dd_House_load_101 rfl hl (by decide) rfl (fun ls hl => ?_)
          refine lv_bipush (v := (-2)) hx hb dd_House_load_102 (by decide) ?_
          obtain ⟨rfl, rfl⟩ := xp_r h
          exact xh_iret C hP hS (Nat.le_of_ble_eq_true rfl) (Nat.le_of_ble_eq_true rfl) dd_House_load_104
        have h := xp_f hk2 h
        cases h
      refine xk_goesV (xr_V (As := [.int b2]) (rest := []) C hP hS (ct_Checker_checkBody htr hok hq) kq_House_92 55 1 rfl rfl ⟨rfl, rfl, Nat.le_of_ble_eq_true rfl, Nat.le_of_ble_eq_true rfl⟩ ⟨Nat.le_of_ble_eq_true rfl, Nat.le_of_ble_eq_true rfl⟩ hl.1 rfl rfl (Nat.le_of_ble_eq_true rfl) dd_House_load_89) hS (fun H locs hP hS => ?_)
      clear hq
      obtain ⟨a27, ea27, h⟩ := xp_let h
      refine lv_iinc (v := a27) (lv' := [(2, .int a27), (0, .ref (ad 0))]) hx hb dd_House_load_92 hl (k := 1) rfl (by rw [ea27]; first | rfl | decide) (by decide) rfl (fun ls hl => ?_)
      refine lv_goto (tgt := 70) hx hb dd_House_load_95 (by decide) ?_
      exact hk70 a27 u23 _ _ _ h hP hS (lv_sub hl [1, 0] rfl)
set_option maxHeartbeats 4000000 in
set_option maxRecDepth 100000 in
theorem ct_House_load {l : Launch} {D : va_G} {ad : Nat → Nat} {ca : Nat → ClassId} {ads : List Nat} (htr : l.stackTraces = false) (hok : xk_ok (kw_h ad ca) ads) {fu : Nat} {u u' : xk_St} {r : Int32} (h : fm_House_load fu u = some (r, u')) :
    ∀ sz, Met l ⟨"ModuleHouse", "load", "()I"⟩ (Cond.codeWith ⟨"ModuleHouse", "load", "()I"⟩ prog_1_method_3_code 3 (some .int) [(39, 51, 54, 54), (39, 51, 57, 78), (61, 98, 101, 54)] :: xk_gd) rm_House_load (xk_Pc D kx_cl (kx_ty ca) (kw_h ad ca) ads xk_F sz [.ref (ad 0)] u) (xk_Qc D kx_cl (kw_h ad ca) ads (xo_i (.inl r)) u') 1 6 (xk_A ads sz) := by
  unfold fm_House_load at h
  refine xh_con (by decide) htr hok (Nat.le_of_ble_eq_true rfl) (fun p e s m below meth c ls C hne hl hP => ?_)
  have hx := C.1.1
  have hb := C.1.2.1
  have hS : va_S (xk_A ads s.heap.size) s.heap s.heap [] := va_S.rf
  have hl : lv_has ls 3 [(0, .ref (ad 0))] := hl
  refine lv_aload_n hx hb dd_House_load_0 rfl (lv_at hl 0 rfl) ?_
  refine gf_h_House_0_tapeLength C hP dd_House_load_1 ?_
  obtain ⟨a1, ea1, h⟩ := xp_let h
  refine xr_nami ea1 ?_
  refine lv_istore_n (lv' := [(1, .int a1), (0, .ref (ad 0))]) hx hb dd_House_load_4 rfl hl (by decide) rfl (fun ls hl => ?_)
  refine lv_aload_n hx hb dd_House_load_5 rfl (lv_at hl 1 rfl) ?_
  refine lv_iconst (v := 0) hx hb dd_House_load_6 (by decide) ?_
  refine pf_h_House_0_tapeLength C hP hS dd_House_load_7 (fun H locs hP hS => ?_)
  obtain ⟨u2, eu2, h⟩ := xp_let h
  rw [← eu2] at hP
  refine lv_aload_n hx hb dd_House_load_10 rfl (lv_at hl 1 rfl) ?_
  refine lv_iconst (v := 0) hx hb dd_House_load_11 (by decide) ?_
  refine pf_h_House_0_resultCount C hP hS dd_House_load_12 (fun H locs hP hS => ?_)
  obtain ⟨u3, eu3, h⟩ := xp_let h
  rw [← eu3] at hP
  refine lv_aload_n hx hb dd_House_load_15 rfl (lv_at hl 1 rfl) ?_
  refine lv_iconst (v := 0) hx hb dd_House_load_16 (by decide) ?_
  refine pf_h_House_0_turnsLeft C hP hS dd_House_load_17 (fun H locs hP hS => ?_)
  obtain ⟨u4, eu4, h⟩ := xp_let h
  rw [← eu4] at hP
  refine lv_aload_n hx hb dd_House_load_20 rfl (lv_at hl 1 rfl) ?_
  refine lv_iconst (v := 0) hx hb dd_House_load_21 (by decide) ?_
  refine pf_h_House_0_there C hP hS (by decide) dd_House_load_22 (fun H locs hP hS => ?_)
  obtain ⟨u5, eu5, h⟩ := xp_let h
  rw [← eu5] at hP
  refine lv_aload_n hx hb dd_House_load_25 rfl (lv_at hl 1 rfl) ?_
  refine gf_h_House_0_module C hP dd_House_load_26 ?_
  obtain ⟨rx, u6, hq, h⟩ := xp_seq h
  refine xk_goesV (xr_V (As := []) (rest := []) C hP hS (ct_Mod_clear htr hok hq) kq_House_70 4 6 rfl rfl ⟨rfl, rfl, Nat.le_of_ble_eq_true rfl, Nat.le_of_ble_eq_true rfl⟩ ⟨Nat.le_of_ble_eq_true rfl, Nat.le_of_ble_eq_true rfl⟩ hl.1 rfl rfl (Nat.le_of_ble_eq_true rfl) dd_House_load_29) hS (fun H locs hP hS => ?_)
  clear hq
  refine lv_aload_n hx hb dd_House_load_32 rfl (lv_at hl 1 rfl) ?_
  refine gf_h_House_0_machine C hP dd_House_load_33 ?_
  obtain ⟨rx, u7, hq, h⟩ := xp_seq h
  refine xk_goesV (xr_V (As := []) (rest := []) C hP hS (ct_Machine_clear htr hok hq) kq_House_73 60 4 rfl rfl ⟨rfl, rfl, Nat.le_of_ble_eq_true rfl, Nat.le_of_ble_eq_true rfl⟩ ⟨Nat.le_of_ble_eq_true rfl, Nat.le_of_ble_eq_true rfl⟩ hl.1 rfl rfl (Nat.le_of_ble_eq_true rfl) dd_House_load_36) hS (fun H locs hP hS => ?_)
  clear hq
  refine lv_aload_n hx hb dd_House_load_39 rfl (lv_at hl 1 rfl) ?_
  refine gf_h_House_0_reader C hP dd_House_load_40 ?_
  refine lv_aload_n hx hb dd_House_load_43 rfl (lv_at hl 1 rfl) ?_
  refine gf_h_House_0_tape C hP dd_House_load_44 ?_
  refine lv_iload_n hx hb dd_House_load_47 rfl (lv_at hl 0 rfl) ?_
  rcases xp_cat h with ⟨rx, u8, hq, h⟩ | ⟨k9, u10, hq, h⟩
  rotate_left
  · by_cases hk0 : k9 = 0
    · have h := xp_t hk0 h
      subst hk0
      refine xk_catch (own := "ModuleHouse") (xr_V (As := [.ref (ad 1), .int a1]) (rest := []) C hP hS (ct_Reader_readModule htr hok hq) kq_House_74 54 7 rfl rfl ⟨rfl, rfl, Nat.le_of_ble_eq_true rfl, Nat.le_of_ble_eq_true rfl⟩ ⟨Nat.le_of_ble_eq_true rfl, Nat.le_of_ble_eq_true rfl⟩ hl.1 rfl rfl (Nat.le_of_ble_eq_true rfl) dd_House_load_48) hS C.1.2.2.2.1 [] ⟨39, 51, 54, 54⟩ [⟨39, 51, 57, 78⟩, ⟨61, 98, 101, 54⟩] hne (fun y hy => absurd hy List.not_mem_nil) (by decide) (by decide) (C.1.2.2.2.2 _ (xk_c3 (w := Cond.classLink "ModuleHouse" 54 (xk_E 0)) 25 rfl rfl)) (C.2.2.2.1.1 _ (List.mem_append_right _ (xm_3 (w := Cond.castable (xk_E 0) (xk_E 0)) 51 rfl)) rfl) (fun q11 H locs hP hS => ?_)
      refine lv_astore_n (lv' := [(2, .ref q11), (1, .int a1), (0, .ref (ad 0))]) hx hb dd_House_load_54 rfl hl (by decide) rfl (fun ls hl => ?_)
      refine lv_iconst (v := (-1)) hx hb dd_House_load_55 (by decide) ?_
      obtain ⟨rfl, rfl⟩ := xp_r h
      exact xh_iret C hP hS (Nat.le_of_ble_eq_true rfl) (Nat.le_of_ble_eq_true rfl) dd_House_load_56
    have h := xp_f hk0 h
    by_cases hk1 : k9 = 1
    · have h := xp_t hk1 h
      subst hk1
      refine xk_catch (own := "ModuleHouse") (xr_V (As := [.ref (ad 1), .int a1]) (rest := []) C hP hS (ct_Reader_readModule htr hok hq) kq_House_74 54 7 rfl rfl ⟨rfl, rfl, Nat.le_of_ble_eq_true rfl, Nat.le_of_ble_eq_true rfl⟩ ⟨Nat.le_of_ble_eq_true rfl, Nat.le_of_ble_eq_true rfl⟩ hl.1 rfl rfl (Nat.le_of_ble_eq_true rfl) dd_House_load_48) hS C.1.2.2.2.1 [⟨39, 51, 54, 54⟩] ⟨39, 51, 57, 78⟩ [⟨61, 98, 101, 54⟩] hne (List.forall_mem_cons.mpr ⟨xh_pass (nk := 0) C (by decide) (by decide) (xk_c3 (w := Cond.classLink "ModuleHouse" 54 (xk_E 0)) 25 rfl rfl) C.2.2.2.1.2.2.2.1, fun y hy => absurd hy List.not_mem_nil⟩) (by decide) (by decide) (C.1.2.2.2.2 _ (xk_c3 (w := Cond.classLink "ModuleHouse" 78 (xk_E 1)) 26 rfl rfl)) (C.2.2.2.1.1 _ (List.mem_append_right _ (xm_5 (w := Cond.castable (xk_E 1) (xk_E 1)) 51 rfl)) rfl) (fun q11 H locs hP hS => ?_)
      refine lv_astore_n (lv' := [(2, .ref q11), (1, .int a1), (0, .ref (ad 0))]) hx hb dd_House_load_57 rfl hl (by decide) rfl (fun ls hl => ?_)
      refine lv_bipush (v := (-3)) hx hb dd_House_load_58 (by decide) ?_
      obtain ⟨rfl, rfl⟩ := xp_r h
      exact xh_iret C hP hS (Nat.le_of_ble_eq_true rfl) (Nat.le_of_ble_eq_true rfl) dd_House_load_60
    have h := xp_f hk1 h
    cases h
  refine xk_goesV (xr_V (As := [.ref (ad 1), .int a1]) (rest := []) C hP hS (ct_Reader_readModule htr hok hq) kq_House_74 54 7 rfl rfl ⟨rfl, rfl, Nat.le_of_ble_eq_true rfl, Nat.le_of_ble_eq_true rfl⟩ ⟨Nat.le_of_ble_eq_true rfl, Nat.le_of_ble_eq_true rfl⟩ hl.1 rfl rfl (Nat.le_of_ble_eq_true rfl) dd_House_load_48) hS (fun H locs hP hS => ?_)
  clear hq
  refine lv_goto (tgt := 61) hx hb dd_House_load_51 (by decide) ?_
  refine lv_aload_n hx hb dd_House_load_61 rfl (lv_at hl 1 rfl) ?_
  refine gf_h_House_0_checker C hP dd_House_load_62 ?_
  rcases xp_cat h with ⟨rx, u12, hq, h⟩ | ⟨k13, u14, hq, h⟩
  rotate_left
  · by_cases hk2 : k13 = 0
    · have h := xp_t hk2 h
      subst hk2
      refine xk_catch (own := "ModuleHouse") (xr_V (As := []) (rest := []) C hP hS (ct_Checker_checkParts htr hok hq) kq_House_80 55 1 rfl rfl ⟨rfl, rfl, Nat.le_of_ble_eq_true rfl, Nat.le_of_ble_eq_true rfl⟩ ⟨Nat.le_of_ble_eq_true rfl, Nat.le_of_ble_eq_true rfl⟩ hl.1 rfl rfl (Nat.le_of_ble_eq_true rfl) dd_House_load_65) hS C.1.2.2.2.1 [⟨39, 51, 54, 54⟩, ⟨39, 51, 57, 78⟩] ⟨61, 98, 101, 54⟩ [] hne (List.forall_mem_cons.mpr ⟨xh_skip (by decide), List.forall_mem_cons.mpr ⟨xh_skip (by decide), fun y hy => absurd hy List.not_mem_nil⟩⟩) (by decide) (by decide) (C.1.2.2.2.2 _ (xk_c3 (w := Cond.classLink "ModuleHouse" 54 (xk_E 0)) 25 rfl rfl)) (C.2.2.2.1.1 _ (List.mem_append_right _ (xm_3 (w := Cond.castable (xk_E 0) (xk_E 0)) 51 rfl)) rfl) (fun q15 H locs hP hS => ?_)
      refine lv_astore_n (lv' := [(2, .ref q15), (1, .int a1), (0, .ref (ad 0))]) hx hb dd_House_load_101 rfl hl (by decide) rfl (fun ls hl => ?_)
      refine lv_bipush (v := (-2)) hx hb dd_House_load_102 (by decide) ?_
      obtain ⟨rfl, rfl⟩ := xp_r h
      exact xh_iret C hP hS (Nat.le_of_ble_eq_true rfl) (Nat.le_of_ble_eq_true rfl) dd_House_load_104
    have h := xp_f hk2 h
    cases h
  refine xk_goesV (xr_V (As := []) (rest := []) C hP hS (ct_Checker_checkParts htr hok hq) kq_House_80 55 1 rfl rfl ⟨rfl, rfl, Nat.le_of_ble_eq_true rfl, Nat.le_of_ble_eq_true rfl⟩ ⟨Nat.le_of_ble_eq_true rfl, Nat.le_of_ble_eq_true rfl⟩ hl.1 rfl rfl (Nat.le_of_ble_eq_true rfl) dd_House_load_65) hS (fun H locs hP hS => ?_)
  clear hq
  refine lv_iconst (v := 0) hx hb dd_House_load_68 (by decide) ?_
  refine lv_istore_n (lv' := [(2, .int (0 : Int32)), (1, .int a1), (0, .ref (ad 0))]) hx hb dd_House_load_69 rfl hl (by decide) rfl (fun ls hl => ?_)
  exact wj_House_load_70 htr C hne h hP hS (lv_sub hl [2, 0] rfl)
abbrev rm_Law_feed : Room := { frames := 7, cells := 1, slots := 6, locals := 124 }
noncomputable def fm_Law_feed (fu : Nat) (x1 : Int32) (x2 : Int64) (u : xk_St) : Option (Int32 × xk_St) :=
  (xs_cat (fm_House_feed fu x1 x2 u) (fun k3 u4 => if k3 = 0 then (some ((1 : Int32), u4)) else if k3 = 2 then (some ((2 : Int32), u4)) else none) fun a1 u2 => if (0 : Int32) < 0 ∨ 1 ≤ (0 : Int32).toNatClampNeg then none else xs_let (xs_B u2 13 (0 : Int32).toNatClampNeg (a1.toInt64)) fun u6 => some ((0 : Int32), u6))
set_option maxHeartbeats 4000000 in
set_option maxRecDepth 100000 in
theorem ct_Law_feed {l : Launch} {D : va_G} {ad : Nat → Nat} {ca : Nat → ClassId} {ads : List Nat} (htr : l.stackTraces = false) (hok : xk_ok (kw_h ad ca) ads) {fu : Nat} {x1 : Int32} {x2 : Int64} {u u' : xk_St} {r : Int32} (h : fm_Law_feed fu x1 x2 u = some (r, u')) :
    ∀ sz, Met l ⟨"ModuleHouseLaw", "feed", "(LModuleHouse;IJ[J)I"⟩ (Cond.codeWith ⟨"ModuleHouseLaw", "feed", "(LModuleHouse;IJ[J)I"⟩ method_3_code 6 (some .int) [(0, 11, 14, 13), (0, 11, 18, 15)] :: xk_gd) rm_Law_feed (xk_Pc D kx_cl (kx_ty ca) (kw_h ad ca) ads xk_F sz [.ref (ad 0), .int x1, .long x2, .ref (ad 83)] u) (xk_Qc D kx_cl (kw_h ad ca) ads (xo_i (.inl r)) u') 1 6 (xk_A ads sz) := by
  unfold fm_Law_feed at h
  refine xh_con (by decide) htr hok (Nat.le_of_ble_eq_true rfl) (fun p e s m below meth c ls C hne hl hP => ?_)
  have hx := C.1.1
  have hb := C.1.2.1
  have hS : va_S (xk_A ads s.heap.size) s.heap s.heap [] := va_S.rf
  have hl : lv_has ls 6 [(0, .ref (ad 0)), (1, .int x1), (2, .long x2), (4, .ref (ad 83))] := hl
  refine lv_aload hx hb dd_Law_feed_0 (lv_at hl 3 rfl) ?_
  refine lv_iconst (v := 0) hx hb dd_Law_feed_2 (by decide) ?_
  refine lv_aload_n hx hb dd_Law_feed_3 rfl (lv_at hl 0 rfl) ?_
  refine lv_iload_n hx hb dd_Law_feed_4 rfl (lv_at hl 1 rfl) ?_
  refine lv_lload_n hx hb dd_Law_feed_5 rfl (lv_at hl 2 rfl) ?_
  rcases xp_cat h with ⟨a1, u2, hq, h⟩ | ⟨k3, u4, hq, h⟩
  rotate_left
  · by_cases hk0 : k3 = 0
    · have h := xp_t hk0 h
      subst hk0
      refine xk_catch (own := "ModuleHouseLaw") (xr_V (As := [.int x1, .long x2]) (rest := [.int (0 : Int32), .ref (ad 83)]) C hP hS (ct_House_feed htr hok hq) kq_Law_7 0 0 rfl rfl ⟨rfl, rfl, Nat.le_of_ble_eq_true rfl, Nat.le_of_ble_eq_true rfl⟩ ⟨Nat.le_of_ble_eq_true rfl, Nat.le_of_ble_eq_true rfl⟩ hl.1 rfl rfl (Nat.le_of_ble_eq_true rfl) dd_Law_feed_6) hS C.1.2.2.2.1 [] ⟨0, 11, 14, 13⟩ [⟨0, 11, 18, 15⟩] hne (fun y hy => absurd hy List.not_mem_nil) (by decide) (by decide) (C.1.2.2.2.2 _ (xk_c7 (w := Cond.classLink "ModuleHouseLaw" 13 (xk_E 0)) 161 rfl rfl)) (C.2.2.2.1.1 _ (List.mem_append_right _ (xm_3 (w := Cond.castable (xk_E 0) (xk_E 0)) 51 rfl)) rfl) (fun q5 H locs hP hS => ?_)
      refine lv_astore (lv' := [(5, .ref q5), (0, .ref (ad 0)), (1, .int x1), (2, .long x2), (4, .ref (ad 83))]) hx hb dd_Law_feed_14 hl (by decide) rfl (fun ls hl => ?_)
      refine lv_iconst (v := 1) hx hb dd_Law_feed_16 (by decide) ?_
      obtain ⟨rfl, rfl⟩ := xp_r h
      exact xh_iret C hP hS (Nat.le_of_ble_eq_true rfl) (Nat.le_of_ble_eq_true rfl) dd_Law_feed_17
    have h := xp_f hk0 h
    by_cases hk1 : k3 = 2
    · have h := xp_t hk1 h
      subst hk1
      refine xk_catch (own := "ModuleHouseLaw") (xr_V (As := [.int x1, .long x2]) (rest := [.int (0 : Int32), .ref (ad 83)]) C hP hS (ct_House_feed htr hok hq) kq_Law_7 0 0 rfl rfl ⟨rfl, rfl, Nat.le_of_ble_eq_true rfl, Nat.le_of_ble_eq_true rfl⟩ ⟨Nat.le_of_ble_eq_true rfl, Nat.le_of_ble_eq_true rfl⟩ hl.1 rfl rfl (Nat.le_of_ble_eq_true rfl) dd_Law_feed_6) hS C.1.2.2.2.1 [⟨0, 11, 14, 13⟩] ⟨0, 11, 18, 15⟩ [] hne (List.forall_mem_cons.mpr ⟨xh_pass (nk := 0) C (by decide) (by decide) (xk_c7 (w := Cond.classLink "ModuleHouseLaw" 13 (xk_E 0)) 161 rfl rfl) C.2.2.2.1.2.2.2.2.1, fun y hy => absurd hy List.not_mem_nil⟩) (by decide) (by decide) (C.1.2.2.2.2 _ (xk_c7 (w := Cond.classLink "ModuleHouseLaw" 15 (xk_E 2)) 162 rfl rfl)) (C.2.2.2.1.1 _ (List.mem_append_right _ (xm_7 (w := Cond.castable (xk_E 2) (xk_E 2)) 170 rfl)) rfl) (fun q5 H locs hP hS => ?_)
      refine lv_astore (lv' := [(5, .ref q5), (0, .ref (ad 0)), (1, .int x1), (2, .long x2), (4, .ref (ad 83))]) hx hb dd_Law_feed_18 hl (by decide) rfl (fun ls hl => ?_)
      refine lv_iconst (v := 2) hx hb dd_Law_feed_20 (by decide) ?_
      obtain ⟨rfl, rfl⟩ := xp_r h
      exact xh_iret C hP hS (Nat.le_of_ble_eq_true rfl) (Nat.le_of_ble_eq_true rfl) dd_Law_feed_21
    have h := xp_f hk1 h
    cases h
  refine xk_goesI (xr_V (As := [.int x1, .long x2]) (rest := [.int (0 : Int32), .ref (ad 83)]) C hP hS (ct_House_feed htr hok hq) kq_Law_7 0 0 rfl rfl ⟨rfl, rfl, Nat.le_of_ble_eq_true rfl, Nat.le_of_ble_eq_true rfl⟩ ⟨Nat.le_of_ble_eq_true rfl, Nat.le_of_ble_eq_true rfl⟩ hl.1 rfl rfl (Nat.le_of_ble_eq_true rfl) dd_Law_feed_6) hS (fun H locs hP hS => ?_)
  clear hq
  refine lv_i2l hx hb dd_Law_feed_9 rfl ?_
  obtain ⟨hi, h⟩ := xp_g h
  refine as_h_83 C hP hS hi dd_Law_feed_10 (fun H locs hP hS => ?_)
  obtain ⟨u6, eu6, h⟩ := xp_let h
  rw [← eu6] at hP
  refine lv_goto (tgt := 22) hx hb dd_Law_feed_11 (by decide) ?_
  refine lv_iconst (v := 0) hx hb dd_Law_feed_22 (by decide) ?_
  obtain ⟨rfl, rfl⟩ := xp_r h
  exact xh_iret C hP hS (Nat.le_of_ble_eq_true rfl) (Nat.le_of_ble_eq_true rfl) dd_Law_feed_23
abbrev rm_Law_give : Room := { frames := 7, cells := 1, slots := 6, locals := 122 }
noncomputable def fm_Law_give (x1 : Int64) (u : xk_St) : Option (Int32 × xk_St) :=
  (xs_cat (fm_House_give x1 u) (fun k3 u4 => if k3 = 2 then (some ((1 : Int32), u4)) else none) fun a1 u2 => if (0 : Int32) < 0 ∨ 1 ≤ (0 : Int32).toNatClampNeg then none else xs_let (xs_B u2 13 (0 : Int32).toNatClampNeg (a1.toInt64)) fun u6 => some ((0 : Int32), u6))
set_option maxHeartbeats 4000000 in
set_option maxRecDepth 100000 in
theorem ct_Law_give {l : Launch} {D : va_G} {ad : Nat → Nat} {ca : Nat → ClassId} {ads : List Nat} (htr : l.stackTraces = false) (hok : xk_ok (kw_h ad ca) ads) {x1 : Int64} {u u' : xk_St} {r : Int32} (h : fm_Law_give x1 u = some (r, u')) :
    ∀ sz, Met l ⟨"ModuleHouseLaw", "give", "(LModuleHouse;J[J)I"⟩ (Cond.codeWith ⟨"ModuleHouseLaw", "give", "(LModuleHouse;J[J)I"⟩ method_4_code 5 (some .int) [(0, 9, 12, 15)] :: xk_gd) rm_Law_give (xk_Pc D kx_cl (kx_ty ca) (kw_h ad ca) ads xk_F sz [.ref (ad 0), .long x1, .ref (ad 83)] u) (xk_Qc D kx_cl (kw_h ad ca) ads (xo_i (.inl r)) u') 1 6 (xk_A ads sz) := by
  unfold fm_Law_give at h
  refine xh_con (by decide) htr hok (Nat.le_of_ble_eq_true rfl) (fun p e s m below meth c ls C hne hl hP => ?_)
  have hx := C.1.1
  have hb := C.1.2.1
  have hS : va_S (xk_A ads s.heap.size) s.heap s.heap [] := va_S.rf
  have hl : lv_has ls 5 [(0, .ref (ad 0)), (1, .long x1), (3, .ref (ad 83))] := hl
  refine lv_aload_n hx hb dd_Law_give_0 rfl (lv_at hl 2 rfl) ?_
  refine lv_iconst (v := 0) hx hb dd_Law_give_1 (by decide) ?_
  refine lv_aload_n hx hb dd_Law_give_2 rfl (lv_at hl 0 rfl) ?_
  refine lv_lload_n hx hb dd_Law_give_3 rfl (lv_at hl 1 rfl) ?_
  rcases xp_cat h with ⟨a1, u2, hq, h⟩ | ⟨k3, u4, hq, h⟩
  rotate_left
  · by_cases hk0 : k3 = 2
    · have h := xp_t hk0 h
      subst hk0
      refine xk_catch (own := "ModuleHouseLaw") (xr_V (As := [.long x1]) (rest := [.int (0 : Int32), .ref (ad 83)]) C hP hS (ct_House_give htr hok hq) kq_Law_17 0 0 rfl rfl ⟨rfl, rfl, Nat.le_of_ble_eq_true rfl, Nat.le_of_ble_eq_true rfl⟩ ⟨Nat.le_of_ble_eq_true rfl, Nat.le_of_ble_eq_true rfl⟩ hl.1 rfl rfl (Nat.le_of_ble_eq_true rfl) dd_Law_give_4) hS C.1.2.2.2.1 [] ⟨0, 9, 12, 15⟩ [] hne (fun y hy => absurd hy List.not_mem_nil) (by decide) (by decide) (C.1.2.2.2.2 _ (xk_c7 (w := Cond.classLink "ModuleHouseLaw" 15 (xk_E 2)) 162 rfl rfl)) (C.2.2.2.1.1 _ (List.mem_append_right _ (xm_7 (w := Cond.castable (xk_E 2) (xk_E 2)) 170 rfl)) rfl) (fun q5 H locs hP hS => ?_)
      refine lv_astore (lv' := [(4, .ref q5), (0, .ref (ad 0)), (1, .long x1), (3, .ref (ad 83))]) hx hb dd_Law_give_12 hl (by decide) rfl (fun ls hl => ?_)
      refine lv_iconst (v := 1) hx hb dd_Law_give_14 (by decide) ?_
      obtain ⟨rfl, rfl⟩ := xp_r h
      exact xh_iret C hP hS (Nat.le_of_ble_eq_true rfl) (Nat.le_of_ble_eq_true rfl) dd_Law_give_15
    have h := xp_f hk0 h
    cases h
  refine xk_goesI (xr_V (As := [.long x1]) (rest := [.int (0 : Int32), .ref (ad 83)]) C hP hS (ct_House_give htr hok hq) kq_Law_17 0 0 rfl rfl ⟨rfl, rfl, Nat.le_of_ble_eq_true rfl, Nat.le_of_ble_eq_true rfl⟩ ⟨Nat.le_of_ble_eq_true rfl, Nat.le_of_ble_eq_true rfl⟩ hl.1 rfl rfl (Nat.le_of_ble_eq_true rfl) dd_Law_give_4) hS (fun H locs hP hS => ?_)
  clear hq
  refine lv_i2l hx hb dd_Law_give_7 rfl ?_
  obtain ⟨hi, h⟩ := xp_g h
  refine as_h_83 C hP hS hi dd_Law_give_8 (fun H locs hP hS => ?_)
  obtain ⟨u6, eu6, h⟩ := xp_let h
  rw [← eu6] at hP
  refine lv_goto (tgt := 16) hx hb dd_Law_give_9 (by decide) ?_
  refine lv_iconst (v := 0) hx hb dd_Law_give_16 (by decide) ?_
  obtain ⟨rfl, rfl⟩ := xp_r h
  exact xh_iret C hP hS (Nat.le_of_ble_eq_true rfl) (Nat.le_of_ble_eq_true rfl) dd_Law_give_17
abbrev rm_Law_call : Room := { frames := 15, cells := 1, slots := 6, locals := 320 }
noncomputable def fm_Law_call (fu : Nat) (x1 : Int32) (u : xk_St) : Option (Int32 × xk_St) :=
  (xs_cat (fm_House_call fu x1 u) (fun k3 u4 => if k3 = 0 then (some ((1 : Int32), u4)) else none) fun a1 u2 => if (0 : Int32) < 0 ∨ 1 ≤ (0 : Int32).toNatClampNeg then none else xs_let (xs_B u2 13 (0 : Int32).toNatClampNeg (a1.toInt64)) fun u6 => some ((0 : Int32), u6))
set_option maxHeartbeats 4000000 in
set_option maxRecDepth 100000 in
theorem ct_Law_call {l : Launch} {D : va_G} {ad : Nat → Nat} {ca : Nat → ClassId} {ads : List Nat} (htr : l.stackTraces = false) (hok : xk_ok (kw_h ad ca) ads) {fu : Nat} {x1 : Int32} {u u' : xk_St} {r : Int32} (h : fm_Law_call fu x1 u = some (r, u')) :
    ∀ sz, Met l ⟨"ModuleHouseLaw", "call", "(LModuleHouse;I[J)I"⟩ (Cond.codeWith ⟨"ModuleHouseLaw", "call", "(LModuleHouse;I[J)I"⟩ method_5_code 4 (some .int) [(0, 9, 12, 13)] :: xk_gd) rm_Law_call (xk_Pc D kx_cl (kx_ty ca) (kw_h ad ca) ads xk_F sz [.ref (ad 0), .int x1, .ref (ad 83)] u) (xk_Qc D kx_cl (kw_h ad ca) ads (xo_i (.inl r)) u') 1 6 (xk_A ads sz) := by
  unfold fm_Law_call at h
  refine xh_con (by decide) htr hok (Nat.le_of_ble_eq_true rfl) (fun p e s m below meth c ls C hne hl hP => ?_)
  have hx := C.1.1
  have hb := C.1.2.1
  have hS : va_S (xk_A ads s.heap.size) s.heap s.heap [] := va_S.rf
  have hl : lv_has ls 4 [(0, .ref (ad 0)), (1, .int x1), (2, .ref (ad 83))] := hl
  refine lv_aload_n hx hb dd_Law_call_0 rfl (lv_at hl 2 rfl) ?_
  refine lv_iconst (v := 0) hx hb dd_Law_call_1 (by decide) ?_
  refine lv_aload_n hx hb dd_Law_call_2 rfl (lv_at hl 0 rfl) ?_
  refine lv_iload_n hx hb dd_Law_call_3 rfl (lv_at hl 1 rfl) ?_
  rcases xp_cat h with ⟨a1, u2, hq, h⟩ | ⟨k3, u4, hq, h⟩
  rotate_left
  · by_cases hk0 : k3 = 0
    · have h := xp_t hk0 h
      subst hk0
      refine xk_catch (own := "ModuleHouseLaw") (xr_V (As := [.int x1]) (rest := [.int (0 : Int32), .ref (ad 83)]) C hP hS (ct_House_call htr hok hq) kq_Law_21 0 0 rfl rfl ⟨rfl, rfl, Nat.le_of_ble_eq_true rfl, Nat.le_of_ble_eq_true rfl⟩ ⟨Nat.le_of_ble_eq_true rfl, Nat.le_of_ble_eq_true rfl⟩ hl.1 rfl rfl (Nat.le_of_ble_eq_true rfl) dd_Law_call_4) hS C.1.2.2.2.1 [] ⟨0, 9, 12, 13⟩ [] hne (fun y hy => absurd hy List.not_mem_nil) (by decide) (by decide) (C.1.2.2.2.2 _ (xk_c7 (w := Cond.classLink "ModuleHouseLaw" 13 (xk_E 0)) 161 rfl rfl)) (C.2.2.2.1.1 _ (List.mem_append_right _ (xm_3 (w := Cond.castable (xk_E 0) (xk_E 0)) 51 rfl)) rfl) (fun q5 H locs hP hS => ?_)
      refine lv_astore_n (lv' := [(3, .ref q5), (0, .ref (ad 0)), (1, .int x1), (2, .ref (ad 83))]) hx hb dd_Law_call_12 rfl hl (by decide) rfl (fun ls hl => ?_)
      refine lv_iconst (v := 1) hx hb dd_Law_call_13 (by decide) ?_
      obtain ⟨rfl, rfl⟩ := xp_r h
      exact xh_iret C hP hS (Nat.le_of_ble_eq_true rfl) (Nat.le_of_ble_eq_true rfl) dd_Law_call_14
    have h := xp_f hk0 h
    cases h
  refine xk_goesI (xr_V (As := [.int x1]) (rest := [.int (0 : Int32), .ref (ad 83)]) C hP hS (ct_House_call htr hok hq) kq_Law_21 0 0 rfl rfl ⟨rfl, rfl, Nat.le_of_ble_eq_true rfl, Nat.le_of_ble_eq_true rfl⟩ ⟨Nat.le_of_ble_eq_true rfl, Nat.le_of_ble_eq_true rfl⟩ hl.1 rfl rfl (Nat.le_of_ble_eq_true rfl) dd_Law_call_4) hS (fun H locs hP hS => ?_)
  clear hq
  refine lv_i2l hx hb dd_Law_call_7 rfl ?_
  obtain ⟨hi, h⟩ := xp_g h
  refine as_h_83 C hP hS hi dd_Law_call_8 (fun H locs hP hS => ?_)
  obtain ⟨u6, eu6, h⟩ := xp_let h
  rw [← eu6] at hP
  refine lv_goto (tgt := 15) hx hb dd_Law_call_9 (by decide) ?_
  refine lv_iconst (v := 0) hx hb dd_Law_call_15 (by decide) ?_
  obtain ⟨rfl, rfl⟩ := xp_r h
  exact xh_iret C hP hS (Nat.le_of_ble_eq_true rfl) (Nat.le_of_ble_eq_true rfl) dd_Law_call_16
abbrev rm_Law_result : Room := { frames := 7, cells := 1, slots := 6, locals := 121 }
noncomputable def fm_Law_result (x1 : Int32) (u : xk_St) : Option (Int32 × xk_St) :=
  (xs_cat (fm_House_result x1 u) (fun k3 u4 => if k3 = 3 then (some ((1 : Int32), u4)) else none) fun a1 u2 => if (0 : Int32) < 0 ∨ 1 ≤ (0 : Int32).toNatClampNeg then none else xs_let (xs_B u2 13 (0 : Int32).toNatClampNeg a1) fun u6 => some ((0 : Int32), u6))
set_option maxHeartbeats 4000000 in
set_option maxRecDepth 100000 in
theorem ct_Law_result {l : Launch} {D : va_G} {ad : Nat → Nat} {ca : Nat → ClassId} {ads : List Nat} (htr : l.stackTraces = false) (hok : xk_ok (kw_h ad ca) ads) {x1 : Int32} {u u' : xk_St} {r : Int32} (h : fm_Law_result x1 u = some (r, u')) :
    ∀ sz, Met l ⟨"ModuleHouseLaw", "result", "(LModuleHouse;I[J)I"⟩ (Cond.codeWith ⟨"ModuleHouseLaw", "result", "(LModuleHouse;I[J)I"⟩ method_6_code 4 (some .int) [(0, 8, 11, 29)] :: xk_gd) rm_Law_result (xk_Pc D kx_cl (kx_ty ca) (kw_h ad ca) ads xk_F sz [.ref (ad 0), .int x1, .ref (ad 83)] u) (xk_Qc D kx_cl (kw_h ad ca) ads (xo_i (.inl r)) u') 1 6 (xk_A ads sz) := by
  unfold fm_Law_result at h
  refine xh_con (by decide) htr hok (Nat.le_of_ble_eq_true rfl) (fun p e s m below meth c ls C hne hl hP => ?_)
  have hx := C.1.1
  have hb := C.1.2.1
  have hS : va_S (xk_A ads s.heap.size) s.heap s.heap [] := va_S.rf
  have hl : lv_has ls 4 [(0, .ref (ad 0)), (1, .int x1), (2, .ref (ad 83))] := hl
  refine lv_aload_n hx hb dd_Law_result_0 rfl (lv_at hl 2 rfl) ?_
  refine lv_iconst (v := 0) hx hb dd_Law_result_1 (by decide) ?_
  refine lv_aload_n hx hb dd_Law_result_2 rfl (lv_at hl 0 rfl) ?_
  refine lv_iload_n hx hb dd_Law_result_3 rfl (lv_at hl 1 rfl) ?_
  rcases xp_cat h with ⟨a1, u2, hq, h⟩ | ⟨k3, u4, hq, h⟩
  rotate_left
  · by_cases hk0 : k3 = 3
    · have h := xp_t hk0 h
      subst hk0
      refine xk_catch (own := "ModuleHouseLaw") (xr_V (As := [.int x1]) (rest := [.int (0 : Int32), .ref (ad 83)]) C hP hS (ct_House_result htr hok hq) kq_Law_25 0 0 rfl rfl ⟨rfl, rfl, Nat.le_of_ble_eq_true rfl, Nat.le_of_ble_eq_true rfl⟩ ⟨Nat.le_of_ble_eq_true rfl, Nat.le_of_ble_eq_true rfl⟩ hl.1 rfl rfl (Nat.le_of_ble_eq_true rfl) dd_Law_result_4) hS C.1.2.2.2.1 [] ⟨0, 8, 11, 29⟩ [] hne (fun y hy => absurd hy List.not_mem_nil) (by decide) (by decide) (C.1.2.2.2.2 _ (xk_c7 (w := Cond.classLink "ModuleHouseLaw" 29 (xk_E 3)) 226 rfl rfl)) (C.2.2.2.1.1 _ (List.mem_append_right _ (xm_7 (w := Cond.castable (xk_E 3) (xk_E 3)) 233 rfl)) rfl) (fun q5 H locs hP hS => ?_)
      refine lv_astore_n (lv' := [(3, .ref q5), (0, .ref (ad 0)), (1, .int x1), (2, .ref (ad 83))]) hx hb dd_Law_result_11 rfl hl (by decide) rfl (fun ls hl => ?_)
      refine lv_iconst (v := 1) hx hb dd_Law_result_12 (by decide) ?_
      obtain ⟨rfl, rfl⟩ := xp_r h
      exact xh_iret C hP hS (Nat.le_of_ble_eq_true rfl) (Nat.le_of_ble_eq_true rfl) dd_Law_result_13
    have h := xp_f hk0 h
    cases h
  refine xk_goesL (xr_V (As := [.int x1]) (rest := [.int (0 : Int32), .ref (ad 83)]) C hP hS (ct_House_result htr hok hq) kq_Law_25 0 0 rfl rfl ⟨rfl, rfl, Nat.le_of_ble_eq_true rfl, Nat.le_of_ble_eq_true rfl⟩ ⟨Nat.le_of_ble_eq_true rfl, Nat.le_of_ble_eq_true rfl⟩ hl.1 rfl rfl (Nat.le_of_ble_eq_true rfl) dd_Law_result_4) hS (fun H locs hP hS => ?_)
  clear hq
  obtain ⟨hi, h⟩ := xp_g h
  refine as_h_83 C hP hS hi dd_Law_result_7 (fun H locs hP hS => ?_)
  obtain ⟨u6, eu6, h⟩ := xp_let h
  rw [← eu6] at hP
  refine lv_goto (tgt := 14) hx hb dd_Law_result_8 (by decide) ?_
  refine lv_iconst (v := 0) hx hb dd_Law_result_14 (by decide) ?_
  obtain ⟨rfl, rfl⟩ := xp_r h
  exact xh_iret C hP hS (Nat.le_of_ble_eq_true rfl) (Nat.le_of_ble_eq_true rfl) dd_Law_result_15
abbrev rm_Law_global : Room := { frames := 7, cells := 1, slots := 6, locals := 121 }
noncomputable def fm_Law_global (x1 : Int32) (u : xk_St) : Option (Int32 × xk_St) :=
  (xs_cat (fm_House_global x1 u) (fun k3 u4 => if k3 = 3 then (some ((1 : Int32), u4)) else none) fun a1 u2 => if (0 : Int32) < 0 ∨ 1 ≤ (0 : Int32).toNatClampNeg then none else xs_let (xs_B u2 13 (0 : Int32).toNatClampNeg a1) fun u6 => some ((0 : Int32), u6))
set_option maxHeartbeats 4000000 in
set_option maxRecDepth 100000 in
theorem ct_Law_global {l : Launch} {D : va_G} {ad : Nat → Nat} {ca : Nat → ClassId} {ads : List Nat} (htr : l.stackTraces = false) (hok : xk_ok (kw_h ad ca) ads) {x1 : Int32} {u u' : xk_St} {r : Int32} (h : fm_Law_global x1 u = some (r, u')) :
    ∀ sz, Met l ⟨"ModuleHouseLaw", "global", "(LModuleHouse;I[J)I"⟩ (Cond.codeWith ⟨"ModuleHouseLaw", "global", "(LModuleHouse;I[J)I"⟩ method_7_code 4 (some .int) [(0, 8, 11, 29)] :: xk_gd) rm_Law_global (xk_Pc D kx_cl (kx_ty ca) (kw_h ad ca) ads xk_F sz [.ref (ad 0), .int x1, .ref (ad 83)] u) (xk_Qc D kx_cl (kw_h ad ca) ads (xo_i (.inl r)) u') 1 6 (xk_A ads sz) := by
  unfold fm_Law_global at h
  refine xh_con (by decide) htr hok (Nat.le_of_ble_eq_true rfl) (fun p e s m below meth c ls C hne hl hP => ?_)
  have hx := C.1.1
  have hb := C.1.2.1
  have hS : va_S (xk_A ads s.heap.size) s.heap s.heap [] := va_S.rf
  have hl : lv_has ls 4 [(0, .ref (ad 0)), (1, .int x1), (2, .ref (ad 83))] := hl
  refine lv_aload_n hx hb dd_Law_global_0 rfl (lv_at hl 2 rfl) ?_
  refine lv_iconst (v := 0) hx hb dd_Law_global_1 (by decide) ?_
  refine lv_aload_n hx hb dd_Law_global_2 rfl (lv_at hl 0 rfl) ?_
  refine lv_iload_n hx hb dd_Law_global_3 rfl (lv_at hl 1 rfl) ?_
  rcases xp_cat h with ⟨a1, u2, hq, h⟩ | ⟨k3, u4, hq, h⟩
  rotate_left
  · by_cases hk0 : k3 = 3
    · have h := xp_t hk0 h
      subst hk0
      refine xk_catch (own := "ModuleHouseLaw") (xr_V (As := [.int x1]) (rest := [.int (0 : Int32), .ref (ad 83)]) C hP hS (ct_House_global htr hok hq) kq_Law_31 0 0 rfl rfl ⟨rfl, rfl, Nat.le_of_ble_eq_true rfl, Nat.le_of_ble_eq_true rfl⟩ ⟨Nat.le_of_ble_eq_true rfl, Nat.le_of_ble_eq_true rfl⟩ hl.1 rfl rfl (Nat.le_of_ble_eq_true rfl) dd_Law_global_4) hS C.1.2.2.2.1 [] ⟨0, 8, 11, 29⟩ [] hne (fun y hy => absurd hy List.not_mem_nil) (by decide) (by decide) (C.1.2.2.2.2 _ (xk_c7 (w := Cond.classLink "ModuleHouseLaw" 29 (xk_E 3)) 226 rfl rfl)) (C.2.2.2.1.1 _ (List.mem_append_right _ (xm_7 (w := Cond.castable (xk_E 3) (xk_E 3)) 233 rfl)) rfl) (fun q5 H locs hP hS => ?_)
      refine lv_astore_n (lv' := [(3, .ref q5), (0, .ref (ad 0)), (1, .int x1), (2, .ref (ad 83))]) hx hb dd_Law_global_11 rfl hl (by decide) rfl (fun ls hl => ?_)
      refine lv_iconst (v := 1) hx hb dd_Law_global_12 (by decide) ?_
      obtain ⟨rfl, rfl⟩ := xp_r h
      exact xh_iret C hP hS (Nat.le_of_ble_eq_true rfl) (Nat.le_of_ble_eq_true rfl) dd_Law_global_13
    have h := xp_f hk0 h
    cases h
  refine xk_goesL (xr_V (As := [.int x1]) (rest := [.int (0 : Int32), .ref (ad 83)]) C hP hS (ct_House_global htr hok hq) kq_Law_31 0 0 rfl rfl ⟨rfl, rfl, Nat.le_of_ble_eq_true rfl, Nat.le_of_ble_eq_true rfl⟩ ⟨Nat.le_of_ble_eq_true rfl, Nat.le_of_ble_eq_true rfl⟩ hl.1 rfl rfl (Nat.le_of_ble_eq_true rfl) dd_Law_global_4) hS (fun H locs hP hS => ?_)
  clear hq
  obtain ⟨hi, h⟩ := xp_g h
  refine as_h_83 C hP hS hi dd_Law_global_7 (fun H locs hP hS => ?_)
  obtain ⟨u6, eu6, h⟩ := xp_let h
  rw [← eu6] at hP
  refine lv_goto (tgt := 14) hx hb dd_Law_global_8 (by decide) ?_
  refine lv_iconst (v := 0) hx hb dd_Law_global_14 (by decide) ?_
  obtain ⟨rfl, rfl⟩ := xp_r h
  exact xh_iret C hP hS (Nat.le_of_ble_eq_true rfl) (Nat.le_of_ble_eq_true rfl) dd_Law_global_15
abbrev rm_Law_at : Room := { frames := 7, cells := 1, slots := 6, locals := 121 }
noncomputable def fm_Law_at (fu : Nat) (x1 : Int32) (u : xk_St) : Option (Int32 × xk_St) :=
  (xs_cat (fm_House_at fu x1 u) (fun k3 u4 => if k3 = 3 then (some ((1 : Int32), u4)) else none) fun a1 u2 => if (0 : Int32) < 0 ∨ 1 ≤ (0 : Int32).toNatClampNeg then none else xs_let (xs_B u2 13 (0 : Int32).toNatClampNeg (a1.toInt64)) fun u6 => some ((0 : Int32), u6))
set_option maxHeartbeats 4000000 in
set_option maxRecDepth 100000 in
theorem ct_Law_at {l : Launch} {D : va_G} {ad : Nat → Nat} {ca : Nat → ClassId} {ads : List Nat} (htr : l.stackTraces = false) (hok : xk_ok (kw_h ad ca) ads) {fu : Nat} {x1 : Int32} {u u' : xk_St} {r : Int32} (h : fm_Law_at fu x1 u = some (r, u')) :
    ∀ sz, Met l ⟨"ModuleHouseLaw", "at", "(LModuleHouse;I[J)I"⟩ (Cond.codeWith ⟨"ModuleHouseLaw", "at", "(LModuleHouse;I[J)I"⟩ method_8_code 4 (some .int) [(0, 9, 12, 29)] :: xk_gd) rm_Law_at (xk_Pc D kx_cl (kx_ty ca) (kw_h ad ca) ads xk_F sz [.ref (ad 0), .int x1, .ref (ad 83)] u) (xk_Qc D kx_cl (kw_h ad ca) ads (xo_i (.inl r)) u') 1 6 (xk_A ads sz) := by
  unfold fm_Law_at at h
  refine xh_con (by decide) htr hok (Nat.le_of_ble_eq_true rfl) (fun p e s m below meth c ls C hne hl hP => ?_)
  have hx := C.1.1
  have hb := C.1.2.1
  have hS : va_S (xk_A ads s.heap.size) s.heap s.heap [] := va_S.rf
  have hl : lv_has ls 4 [(0, .ref (ad 0)), (1, .int x1), (2, .ref (ad 83))] := hl
  refine lv_aload_n hx hb dd_Law_at_0 rfl (lv_at hl 2 rfl) ?_
  refine lv_iconst (v := 0) hx hb dd_Law_at_1 (by decide) ?_
  refine lv_aload_n hx hb dd_Law_at_2 rfl (lv_at hl 0 rfl) ?_
  refine lv_iload_n hx hb dd_Law_at_3 rfl (lv_at hl 1 rfl) ?_
  rcases xp_cat h with ⟨a1, u2, hq, h⟩ | ⟨k3, u4, hq, h⟩
  rotate_left
  · by_cases hk0 : k3 = 3
    · have h := xp_t hk0 h
      subst hk0
      refine xk_catch (own := "ModuleHouseLaw") (xr_V (As := [.int x1]) (rest := [.int (0 : Int32), .ref (ad 83)]) C hP hS (ct_House_at htr hok hq) kq_Law_34 0 0 rfl rfl ⟨rfl, rfl, Nat.le_of_ble_eq_true rfl, Nat.le_of_ble_eq_true rfl⟩ ⟨Nat.le_of_ble_eq_true rfl, Nat.le_of_ble_eq_true rfl⟩ hl.1 rfl rfl (Nat.le_of_ble_eq_true rfl) dd_Law_at_4) hS C.1.2.2.2.1 [] ⟨0, 9, 12, 29⟩ [] hne (fun y hy => absurd hy List.not_mem_nil) (by decide) (by decide) (C.1.2.2.2.2 _ (xk_c7 (w := Cond.classLink "ModuleHouseLaw" 29 (xk_E 3)) 226 rfl rfl)) (C.2.2.2.1.1 _ (List.mem_append_right _ (xm_7 (w := Cond.castable (xk_E 3) (xk_E 3)) 233 rfl)) rfl) (fun q5 H locs hP hS => ?_)
      refine lv_astore_n (lv' := [(3, .ref q5), (0, .ref (ad 0)), (1, .int x1), (2, .ref (ad 83))]) hx hb dd_Law_at_12 rfl hl (by decide) rfl (fun ls hl => ?_)
      refine lv_iconst (v := 1) hx hb dd_Law_at_13 (by decide) ?_
      obtain ⟨rfl, rfl⟩ := xp_r h
      exact xh_iret C hP hS (Nat.le_of_ble_eq_true rfl) (Nat.le_of_ble_eq_true rfl) dd_Law_at_14
    have h := xp_f hk0 h
    cases h
  refine xk_goesI (xr_V (As := [.int x1]) (rest := [.int (0 : Int32), .ref (ad 83)]) C hP hS (ct_House_at htr hok hq) kq_Law_34 0 0 rfl rfl ⟨rfl, rfl, Nat.le_of_ble_eq_true rfl, Nat.le_of_ble_eq_true rfl⟩ ⟨Nat.le_of_ble_eq_true rfl, Nat.le_of_ble_eq_true rfl⟩ hl.1 rfl rfl (Nat.le_of_ble_eq_true rfl) dd_Law_at_4) hS (fun H locs hP hS => ?_)
  clear hq
  refine lv_i2l hx hb dd_Law_at_7 rfl ?_
  obtain ⟨hi, h⟩ := xp_g h
  refine as_h_83 C hP hS hi dd_Law_at_8 (fun H locs hP hS => ?_)
  obtain ⟨u6, eu6, h⟩ := xp_let h
  rw [← eu6] at hP
  refine lv_goto (tgt := 15) hx hb dd_Law_at_9 (by decide) ?_
  refine lv_iconst (v := 0) hx hb dd_Law_at_15 (by decide) ?_
  obtain ⟨rfl, rfl⟩ := xp_r h
  exact xh_iret C hP hS (Nat.le_of_ble_eq_true rfl) (Nat.le_of_ble_eq_true rfl) dd_Law_at_16
abbrev rm_Law_look : Room := { frames := 7, cells := 1, slots := 6, locals := 129 }
noncomputable def fm_Law_look (fu : Nat) (x1 : Int32) (u : xk_St) : Option (Int32 × xk_St) :=
  (xs_cat (fm_House_look fu x1 u) (fun k3 u4 => if k3 = 0 then (some ((1 : Int32), u4)) else none) fun a1 u2 => if (0 : Int32) < 0 ∨ 1 ≤ (0 : Int32).toNatClampNeg then none else xs_let (xs_B u2 13 (0 : Int32).toNatClampNeg (a1.toInt64)) fun u6 => some ((0 : Int32), u6))
set_option maxHeartbeats 4000000 in
set_option maxRecDepth 100000 in
theorem ct_Law_look {l : Launch} {D : va_G} {ad : Nat → Nat} {ca : Nat → ClassId} {ads : List Nat} (htr : l.stackTraces = false) (hok : xk_ok (kw_h ad ca) ads) {fu : Nat} {x1 : Int32} {u u' : xk_St} {r : Int32} (h : fm_Law_look fu x1 u = some (r, u')) :
    ∀ sz, Met l ⟨"ModuleHouseLaw", "look", "(LModuleHouse;I[J)I"⟩ (Cond.codeWith ⟨"ModuleHouseLaw", "look", "(LModuleHouse;I[J)I"⟩ method_9_code 4 (some .int) [(0, 9, 12, 13)] :: xk_gd) rm_Law_look (xk_Pc D kx_cl (kx_ty ca) (kw_h ad ca) ads xk_F sz [.ref (ad 0), .int x1, .ref (ad 83)] u) (xk_Qc D kx_cl (kw_h ad ca) ads (xo_i (.inl r)) u') 1 6 (xk_A ads sz) := by
  unfold fm_Law_look at h
  refine xh_con (by decide) htr hok (Nat.le_of_ble_eq_true rfl) (fun p e s m below meth c ls C hne hl hP => ?_)
  have hx := C.1.1
  have hb := C.1.2.1
  have hS : va_S (xk_A ads s.heap.size) s.heap s.heap [] := va_S.rf
  have hl : lv_has ls 4 [(0, .ref (ad 0)), (1, .int x1), (2, .ref (ad 83))] := hl
  refine lv_aload_n hx hb dd_Law_look_0 rfl (lv_at hl 2 rfl) ?_
  refine lv_iconst (v := 0) hx hb dd_Law_look_1 (by decide) ?_
  refine lv_aload_n hx hb dd_Law_look_2 rfl (lv_at hl 0 rfl) ?_
  refine lv_iload_n hx hb dd_Law_look_3 rfl (lv_at hl 1 rfl) ?_
  rcases xp_cat h with ⟨a1, u2, hq, h⟩ | ⟨k3, u4, hq, h⟩
  rotate_left
  · by_cases hk0 : k3 = 0
    · have h := xp_t hk0 h
      subst hk0
      refine xk_catch (own := "ModuleHouseLaw") (xr_V (As := [.int x1]) (rest := [.int (0 : Int32), .ref (ad 83)]) C hP hS (ct_House_look htr hok hq) kq_Law_37 0 0 rfl rfl ⟨rfl, rfl, Nat.le_of_ble_eq_true rfl, Nat.le_of_ble_eq_true rfl⟩ ⟨Nat.le_of_ble_eq_true rfl, Nat.le_of_ble_eq_true rfl⟩ hl.1 rfl rfl (Nat.le_of_ble_eq_true rfl) dd_Law_look_4) hS C.1.2.2.2.1 [] ⟨0, 9, 12, 13⟩ [] hne (fun y hy => absurd hy List.not_mem_nil) (by decide) (by decide) (C.1.2.2.2.2 _ (xk_c7 (w := Cond.classLink "ModuleHouseLaw" 13 (xk_E 0)) 161 rfl rfl)) (C.2.2.2.1.1 _ (List.mem_append_right _ (xm_3 (w := Cond.castable (xk_E 0) (xk_E 0)) 51 rfl)) rfl) (fun q5 H locs hP hS => ?_)
      refine lv_astore_n (lv' := [(3, .ref q5), (0, .ref (ad 0)), (1, .int x1), (2, .ref (ad 83))]) hx hb dd_Law_look_12 rfl hl (by decide) rfl (fun ls hl => ?_)
      refine lv_iconst (v := 1) hx hb dd_Law_look_13 (by decide) ?_
      obtain ⟨rfl, rfl⟩ := xp_r h
      exact xh_iret C hP hS (Nat.le_of_ble_eq_true rfl) (Nat.le_of_ble_eq_true rfl) dd_Law_look_14
    have h := xp_f hk0 h
    cases h
  refine xk_goesI (xr_V (As := [.int x1]) (rest := [.int (0 : Int32), .ref (ad 83)]) C hP hS (ct_House_look htr hok hq) kq_Law_37 0 0 rfl rfl ⟨rfl, rfl, Nat.le_of_ble_eq_true rfl, Nat.le_of_ble_eq_true rfl⟩ ⟨Nat.le_of_ble_eq_true rfl, Nat.le_of_ble_eq_true rfl⟩ hl.1 rfl rfl (Nat.le_of_ble_eq_true rfl) dd_Law_look_4) hS (fun H locs hP hS => ?_)
  clear hq
  refine lv_i2l hx hb dd_Law_look_7 rfl ?_
  obtain ⟨hi, h⟩ := xp_g h
  refine as_h_83 C hP hS hi dd_Law_look_8 (fun H locs hP hS => ?_)
  obtain ⟨u6, eu6, h⟩ := xp_let h
  rw [← eu6] at hP
  refine lv_goto (tgt := 15) hx hb dd_Law_look_9 (by decide) ?_
  refine lv_iconst (v := 0) hx hb dd_Law_look_15 (by decide) ?_
  obtain ⟨rfl, rfl⟩ := xp_r h
  exact xh_iret C hP hS (Nat.le_of_ble_eq_true rfl) (Nat.le_of_ble_eq_true rfl) dd_Law_look_16
