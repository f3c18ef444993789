/-- what one call of the script must do: class and reference answer alike, and stay related -/
noncomputable def xl_v (a b : Int32) : Int64 := (a.toInt64 <<< ((32 : Int32).toInt64 &&& 63)) ||| (b.toInt64 &&& (4294967295 : Int64))
def xl_ok (fu : Nat) (Rel : xk_St → xk_St → Prop) (a0 a1 a2 a3 : Int32) (uh um : xk_St) : Prop :=
  (a0 &&& 7 = 0 → ∃ (k : Int32) (b : Int32) (vh vm : xk_St), fm_Law_feed fu a1 (xl_v a2 a3) uh = some (k, vh) ∧ fm_Model_feed fu a1 (xl_v a2 a3) um = some (b, vm) ∧ vm.1 0 = k ∧ (k = 0 → vh.2.2.2 13 0 = b.toInt64) ∧ Rel vh vm) ∧
  (a0 &&& 7 = 1 → ∃ (r : Int32) (vh vm : xk_St), fm_House_load fu uh = some (r, vh) ∧ fm_Model_load fu um = some (r, vm) ∧ Rel vh vm) ∧
  (a0 &&& 7 = 2 → ∃ (k : Int32) (b : Int32) (vh vm : xk_St), fm_Law_give (xl_v a1 a2) uh = some (k, vh) ∧ fm_Model_give (xl_v a1 a2) um = some (b, vm) ∧ vm.1 0 = k ∧ (k = 0 → vh.2.2.2 13 0 = b.toInt64) ∧ Rel vh vm) ∧
  (a0 &&& 7 = 3 → ∃ (k : Int32) (b : Int32) (vh vm : xk_St), fm_Law_call fu a1 uh = some (k, vh) ∧ fm_Model_call fu a1 um = some (b, vm) ∧ vm.1 0 = k ∧ (k = 0 → vh.2.2.2 13 0 = b.toInt64) ∧ Rel vh vm) ∧
  (a0 &&& 7 = 4 → ∃ (k : Int32) (b : Int64) (vh vm : xk_St), fm_Law_result a1 uh = some (k, vh) ∧ fm_Model_result a1 um = some (b, vm) ∧ vm.1 0 = k ∧ (k = 0 → vh.2.2.2 13 0 = b) ∧ Rel vh vm) ∧
  (a0 &&& 7 = 5 → ∃ (k : Int32) (b : Int64) (vh vm : xk_St), fm_Law_global a1 uh = some (k, vh) ∧ fm_Model_global a1 um = some (b, vm) ∧ vm.1 0 = k ∧ (k = 0 → vh.2.2.2 13 0 = b) ∧ Rel vh vm) ∧
  (a0 &&& 7 = 6 → ∃ (k : Int32) (b : Int32) (vh vm : xk_St), fm_Law_at fu a1 uh = some (k, vh) ∧ fm_Model_at a1 um = some (b, vm) ∧ vm.1 0 = k ∧ (k = 0 → vh.2.2.2 13 0 = b.toInt64) ∧ Rel vh vm) ∧
  (a0 &&& 7 = 7 → ∃ (k : Int32) (b : Int32) (vh vm : xk_St), fm_Law_look fu a1 uh = some (k, vh) ∧ fm_Model_look fu a1 um = some (b, vm) ∧ vm.1 0 = k ∧ (k = 0 → vh.2.2.2 13 0 = b.toInt64) ∧ Rel vh vm)
theorem kl_46 : xl_wS "ModuleHouseLaw" 46 (⟨"ModuleHouseLaw", "feed", "(LModuleHouse;IJ[J)I"⟩ : MethodName) method_3_code 6 (some .int) [(0, 11, 14, 13), (0, 11, 18, 15)] 4 := ⟨xk_c7 (w := Cond.methodLink "ModuleHouseLaw" 46 (⟨"ModuleHouseLaw", "feed", "(LModuleHouse;IJ[J)I"⟩ : MethodName)) 158 rfl rfl, xk_c7 (w := Cond.static (⟨"ModuleHouseLaw", "feed", "(LModuleHouse;IJ[J)I"⟩ : MethodName)) 159 rfl rfl, xk_c7 (w := Cond.codeWith (⟨"ModuleHouseLaw", "feed", "(LModuleHouse;IJ[J)I"⟩ : MethodName) method_3_code 6 (some .int) [(0, 11, 14, 13), (0, 11, 18, 15)]) 160 rfl rfl, xk_c1 (w := Cond.initialized "ModuleHouseLaw") 0 rfl rfl, by decide, by decide +kernel⟩
theorem kl_51 : xk_wV "ModuleHouseLaw" 51 (⟨"ModuleHouseModel", "feed", "(IJ)I"⟩ : MethodName) prog_14_method_136_code 5 (some .int) 2 := ⟨xk_c9 (w := Cond.methodLink "ModuleHouseLaw" 51 (⟨"ModuleHouseModel", "feed", "(IJ)I"⟩ : MethodName)) 64 rfl rfl, xk_c9 (w := Cond.instanceMethod (⟨"ModuleHouseModel", "feed", "(IJ)I"⟩ : MethodName)) 65 rfl rfl, xk_c9 (w := Cond.selects "ModuleHouseModel" (⟨"ModuleHouseModel", "feed", "(IJ)I"⟩ : MethodName) (⟨"ModuleHouseModel", "feed", "(IJ)I"⟩ : MethodName)) 66 rfl rfl, xk_c9 (w := Cond.code (⟨"ModuleHouseModel", "feed", "(IJ)I"⟩ : MethodName) prog_14_method_136_code 5 (some .int)) 67 rfl rfl, xk_c1 (w := Cond.initialized "ModuleHouseModel") 12 rfl rfl, by decide, by decide +kernel⟩
theorem kl_52 : xk_wV "ModuleHouseLaw" 52 (⟨"ModuleHouseModel", "thrown", "()I"⟩ : MethodName) prog_14_method_2_code 1 (some .int) 0 := ⟨xk_c9 (w := Cond.methodLink "ModuleHouseLaw" 52 (⟨"ModuleHouseModel", "thrown", "()I"⟩ : MethodName)) 60 rfl rfl, xk_c9 (w := Cond.instanceMethod (⟨"ModuleHouseModel", "thrown", "()I"⟩ : MethodName)) 61 rfl rfl, xk_c9 (w := Cond.selects "ModuleHouseModel" (⟨"ModuleHouseModel", "thrown", "()I"⟩ : MethodName) (⟨"ModuleHouseModel", "thrown", "()I"⟩ : MethodName)) 62 rfl rfl, xk_c9 (w := Cond.code (⟨"ModuleHouseModel", "thrown", "()I"⟩ : MethodName) prog_14_method_2_code 1 (some .int)) 63 rfl rfl, xk_c1 (w := Cond.initialized "ModuleHouseModel") 12 rfl rfl, by decide, by decide +kernel⟩
theorem kl_56 : xl_wV "ModuleHouseLaw" 56 (⟨"ModuleHouse", "load", "()I"⟩ : MethodName) prog_1_method_3_code 3 (some .int) [(39, 51, 54, 54), (39, 51, 57, 78), (61, 98, 101, 54)] 0 := ⟨xk_c3 (w := Cond.methodLink "ModuleHouseLaw" 56 (⟨"ModuleHouse", "load", "()I"⟩ : MethodName)) 21 rfl rfl, xk_c3 (w := Cond.instanceMethod (⟨"ModuleHouse", "load", "()I"⟩ : MethodName)) 22 rfl rfl, xk_c3 (w := Cond.selects "ModuleHouse" (⟨"ModuleHouse", "load", "()I"⟩ : MethodName) (⟨"ModuleHouse", "load", "()I"⟩ : MethodName)) 23 rfl rfl, xk_c3 (w := Cond.codeWith (⟨"ModuleHouse", "load", "()I"⟩ : MethodName) prog_1_method_3_code 3 (some .int) [(39, 51, 54, 54), (39, 51, 57, 78), (61, 98, 101, 54)]) 24 rfl rfl, xk_c1 (w := Cond.initialized "ModuleHouse") 1 rfl rfl, by decide, by decide +kernel⟩
theorem kl_59 : xk_wV "ModuleHouseLaw" 59 (⟨"ModuleHouseModel", "load", "()I"⟩ : MethodName) prog_14_method_137_code 2 (some .int) 0 := ⟨xk_c9 (w := Cond.methodLink "ModuleHouseLaw" 59 (⟨"ModuleHouseModel", "load", "()I"⟩ : MethodName)) 76 rfl rfl, xk_c9 (w := Cond.instanceMethod (⟨"ModuleHouseModel", "load", "()I"⟩ : MethodName)) 77 rfl rfl, xk_c9 (w := Cond.selects "ModuleHouseModel" (⟨"ModuleHouseModel", "load", "()I"⟩ : MethodName) (⟨"ModuleHouseModel", "load", "()I"⟩ : MethodName)) 78 rfl rfl, xk_c9 (w := Cond.code (⟨"ModuleHouseModel", "load", "()I"⟩ : MethodName) prog_14_method_137_code 2 (some .int)) 79 rfl rfl, xk_c1 (w := Cond.initialized "ModuleHouseModel") 12 rfl rfl, by decide, by decide +kernel⟩
theorem kl_60 : xl_wS "ModuleHouseLaw" 60 (⟨"ModuleHouseLaw", "give", "(LModuleHouse;J[J)I"⟩ : MethodName) method_4_code 5 (some .int) [(0, 9, 12, 15)] 3 := ⟨xk_c7 (w := Cond.methodLink "ModuleHouseLaw" 60 (⟨"ModuleHouseLaw", "give", "(LModuleHouse;J[J)I"⟩ : MethodName)) 183 rfl rfl, xk_c7 (w := Cond.static (⟨"ModuleHouseLaw", "give", "(LModuleHouse;J[J)I"⟩ : MethodName)) 184 rfl rfl, xk_c7 (w := Cond.codeWith (⟨"ModuleHouseLaw", "give", "(LModuleHouse;J[J)I"⟩ : MethodName) method_4_code 5 (some .int) [(0, 9, 12, 15)]) 185 rfl rfl, xk_c1 (w := Cond.initialized "ModuleHouseLaw") 0 rfl rfl, by decide, by decide +kernel⟩
theorem kl_63 : xk_wV "ModuleHouseLaw" 63 (⟨"ModuleHouseModel", "give", "(J)I"⟩ : MethodName) prog_14_method_138_code 3 (some .int) 1 := ⟨xk_c11 (w := Cond.methodLink "ModuleHouseLaw" 63 (⟨"ModuleHouseModel", "give", "(J)I"⟩ : MethodName)) 173 rfl rfl, xk_c11 (w := Cond.instanceMethod (⟨"ModuleHouseModel", "give", "(J)I"⟩ : MethodName)) 174 rfl rfl, xk_c11 (w := Cond.selects "ModuleHouseModel" (⟨"ModuleHouseModel", "give", "(J)I"⟩ : MethodName) (⟨"ModuleHouseModel", "give", "(J)I"⟩ : MethodName)) 175 rfl rfl, xk_c11 (w := Cond.code (⟨"ModuleHouseModel", "give", "(J)I"⟩ : MethodName) prog_14_method_138_code 3 (some .int)) 176 rfl rfl, xk_c1 (w := Cond.initialized "ModuleHouseModel") 12 rfl rfl, by decide, by decide +kernel⟩
theorem kl_64 : xl_wS "ModuleHouseLaw" 64 (⟨"ModuleHouseLaw", "call", "(LModuleHouse;I[J)I"⟩ : MethodName) method_5_code 4 (some .int) [(0, 9, 12, 13)] 3 := ⟨xk_c7 (w := Cond.methodLink "ModuleHouseLaw" 64 (⟨"ModuleHouseLaw", "call", "(LModuleHouse;I[J)I"⟩ : MethodName)) 190 rfl rfl, xk_c7 (w := Cond.static (⟨"ModuleHouseLaw", "call", "(LModuleHouse;I[J)I"⟩ : MethodName)) 191 rfl rfl, xk_c7 (w := Cond.codeWith (⟨"ModuleHouseLaw", "call", "(LModuleHouse;I[J)I"⟩ : MethodName) method_5_code 4 (some .int) [(0, 9, 12, 13)]) 192 rfl rfl, xk_c1 (w := Cond.initialized "ModuleHouseLaw") 0 rfl rfl, by decide, by decide +kernel⟩
theorem kl_67 : xk_wV "ModuleHouseLaw" 67 (⟨"ModuleHouseModel", "call", "(I)I"⟩ : MethodName) prog_14_method_139_code 8 (some .int) 1 := ⟨xk_c11 (w := Cond.methodLink "ModuleHouseLaw" 67 (⟨"ModuleHouseModel", "call", "(I)I"⟩ : MethodName)) 177 rfl rfl, xk_c11 (w := Cond.instanceMethod (⟨"ModuleHouseModel", "call", "(I)I"⟩ : MethodName)) 178 rfl rfl, xk_c11 (w := Cond.selects "ModuleHouseModel" (⟨"ModuleHouseModel", "call", "(I)I"⟩ : MethodName) (⟨"ModuleHouseModel", "call", "(I)I"⟩ : MethodName)) 179 rfl rfl, xk_c11 (w := Cond.code (⟨"ModuleHouseModel", "call", "(I)I"⟩ : MethodName) prog_14_method_139_code 8 (some .int)) 180 rfl rfl, xk_c1 (w := Cond.initialized "ModuleHouseModel") 12 rfl rfl, by decide, by decide +kernel⟩
theorem kl_68 : xl_wS "ModuleHouseLaw" 68 (⟨"ModuleHouseLaw", "result", "(LModuleHouse;I[J)I"⟩ : MethodName) method_6_code 4 (some .int) [(0, 8, 11, 29)] 3 := ⟨xk_c7 (w := Cond.methodLink "ModuleHouseLaw" 68 (⟨"ModuleHouseLaw", "result", "(LModuleHouse;I[J)I"⟩ : MethodName)) 223 rfl rfl, xk_c7 (w := Cond.static (⟨"ModuleHouseLaw", "result", "(LModuleHouse;I[J)I"⟩ : MethodName)) 224 rfl rfl, xk_c7 (w := Cond.codeWith (⟨"ModuleHouseLaw", "result", "(LModuleHouse;I[J)I"⟩ : MethodName) method_6_code 4 (some .int) [(0, 8, 11, 29)]) 225 rfl rfl, xk_c1 (w := Cond.initialized "ModuleHouseLaw") 0 rfl rfl, by decide, by decide +kernel⟩
theorem kl_70 : xk_wV "ModuleHouseLaw" 70 (⟨"ModuleHouseModel", "result", "(I)J"⟩ : MethodName) prog_14_method_140_code 2 (some .long) 1 := ⟨xk_c11 (w := Cond.methodLink "ModuleHouseLaw" 70 (⟨"ModuleHouseModel", "result", "(I)J"⟩ : MethodName)) 185 rfl rfl, xk_c11 (w := Cond.instanceMethod (⟨"ModuleHouseModel", "result", "(I)J"⟩ : MethodName)) 186 rfl rfl, xk_c11 (w := Cond.selects "ModuleHouseModel" (⟨"ModuleHouseModel", "result", "(I)J"⟩ : MethodName) (⟨"ModuleHouseModel", "result", "(I)J"⟩ : MethodName)) 187 rfl rfl, xk_c11 (w := Cond.code (⟨"ModuleHouseModel", "result", "(I)J"⟩ : MethodName) prog_14_method_140_code 2 (some .long)) 188 rfl rfl, xk_c1 (w := Cond.initialized "ModuleHouseModel") 12 rfl rfl, by decide, by decide +kernel⟩
theorem kl_71 : xl_wS "ModuleHouseLaw" 71 (⟨"ModuleHouseLaw", "global", "(LModuleHouse;I[J)I"⟩ : MethodName) method_7_code 4 (some .int) [(0, 8, 11, 29)] 3 := ⟨xk_c8 (w := Cond.methodLink "ModuleHouseLaw" 71 (⟨"ModuleHouseLaw", "global", "(LModuleHouse;I[J)I"⟩ : MethodName)) 6 rfl rfl, xk_c8 (w := Cond.static (⟨"ModuleHouseLaw", "global", "(LModuleHouse;I[J)I"⟩ : MethodName)) 7 rfl rfl, xk_c8 (w := Cond.codeWith (⟨"ModuleHouseLaw", "global", "(LModuleHouse;I[J)I"⟩ : MethodName) method_7_code 4 (some .int) [(0, 8, 11, 29)]) 8 rfl rfl, xk_c1 (w := Cond.initialized "ModuleHouseLaw") 0 rfl rfl, by decide, by decide +kernel⟩
theorem kl_73 : xk_wV "ModuleHouseLaw" 73 (⟨"ModuleHouseModel", "global", "(I)J"⟩ : MethodName) prog_14_method_141_code 4 (some .long) 1 := ⟨xk_c11 (w := Cond.methodLink "ModuleHouseLaw" 73 (⟨"ModuleHouseModel", "global", "(I)J"⟩ : MethodName)) 189 rfl rfl, xk_c11 (w := Cond.instanceMethod (⟨"ModuleHouseModel", "global", "(I)J"⟩ : MethodName)) 190 rfl rfl, xk_c11 (w := Cond.selects "ModuleHouseModel" (⟨"ModuleHouseModel", "global", "(I)J"⟩ : MethodName) (⟨"ModuleHouseModel", "global", "(I)J"⟩ : MethodName)) 191 rfl rfl, xk_c11 (w := Cond.code (⟨"ModuleHouseModel", "global", "(I)J"⟩ : MethodName) prog_14_method_141_code 4 (some .long)) 192 rfl rfl, xk_c1 (w := Cond.initialized "ModuleHouseModel") 12 rfl rfl, by decide, by decide +kernel⟩
theorem kl_74 : xl_wS "ModuleHouseLaw" 74 (⟨"ModuleHouseLaw", "at", "(LModuleHouse;I[J)I"⟩ : MethodName) method_8_code 4 (some .int) [(0, 9, 12, 29)] 3 := ⟨xk_c8 (w := Cond.methodLink "ModuleHouseLaw" 74 (⟨"ModuleHouseLaw", "at", "(LModuleHouse;I[J)I"⟩ : MethodName)) 13 rfl rfl, xk_c8 (w := Cond.static (⟨"ModuleHouseLaw", "at", "(LModuleHouse;I[J)I"⟩ : MethodName)) 14 rfl rfl, xk_c8 (w := Cond.codeWith (⟨"ModuleHouseLaw", "at", "(LModuleHouse;I[J)I"⟩ : MethodName) method_8_code 4 (some .int) [(0, 9, 12, 29)]) 15 rfl rfl, xk_c1 (w := Cond.initialized "ModuleHouseLaw") 0 rfl rfl, by decide, by decide +kernel⟩
theorem kl_76 : xk_wV "ModuleHouseLaw" 76 (⟨"ModuleHouseModel", "at", "(I)I"⟩ : MethodName) prog_14_method_142_code 2 (some .int) 1 := ⟨xk_c11 (w := Cond.methodLink "ModuleHouseLaw" 76 (⟨"ModuleHouseModel", "at", "(I)I"⟩ : MethodName)) 193 rfl rfl, xk_c11 (w := Cond.instanceMethod (⟨"ModuleHouseModel", "at", "(I)I"⟩ : MethodName)) 194 rfl rfl, xk_c11 (w := Cond.selects "ModuleHouseModel" (⟨"ModuleHouseModel", "at", "(I)I"⟩ : MethodName) (⟨"ModuleHouseModel", "at", "(I)I"⟩ : MethodName)) 195 rfl rfl, xk_c11 (w := Cond.code (⟨"ModuleHouseModel", "at", "(I)I"⟩ : MethodName) prog_14_method_142_code 2 (some .int)) 196 rfl rfl, xk_c1 (w := Cond.initialized "ModuleHouseModel") 12 rfl rfl, by decide, by decide +kernel⟩
theorem kl_77 : xl_wS "ModuleHouseLaw" 77 (⟨"ModuleHouseLaw", "look", "(LModuleHouse;I[J)I"⟩ : MethodName) method_9_code 4 (some .int) [(0, 9, 12, 13)] 3 := ⟨xk_c8 (w := Cond.methodLink "ModuleHouseLaw" 77 (⟨"ModuleHouseLaw", "look", "(LModuleHouse;I[J)I"⟩ : MethodName)) 22 rfl rfl, xk_c8 (w := Cond.static (⟨"ModuleHouseLaw", "look", "(LModuleHouse;I[J)I"⟩ : MethodName)) 23 rfl rfl, xk_c8 (w := Cond.codeWith (⟨"ModuleHouseLaw", "look", "(LModuleHouse;I[J)I"⟩ : MethodName) method_9_code 4 (some .int) [(0, 9, 12, 13)]) 24 rfl rfl, xk_c1 (w := Cond.initialized "ModuleHouseLaw") 0 rfl rfl, by decide, by decide +kernel⟩
theorem kl_79 : xk_wV "ModuleHouseLaw" 79 (⟨"ModuleHouseModel", "look", "(I)I"⟩ : MethodName) prog_14_method_143_code 2 (some .int) 1 := ⟨xk_c11 (w := Cond.methodLink "ModuleHouseLaw" 79 (⟨"ModuleHouseModel", "look", "(I)I"⟩ : MethodName)) 197 rfl rfl, xk_c11 (w := Cond.instanceMethod (⟨"ModuleHouseModel", "look", "(I)I"⟩ : MethodName)) 198 rfl rfl, xk_c11 (w := Cond.selects "ModuleHouseModel" (⟨"ModuleHouseModel", "look", "(I)I"⟩ : MethodName) (⟨"ModuleHouseModel", "look", "(I)I"⟩ : MethodName)) 199 rfl rfl, xk_c11 (w := Cond.code (⟨"ModuleHouseModel", "look", "(I)I"⟩ : MethodName) prog_14_method_143_code 2 (some .int)) 200 rfl rfl, xk_c1 (w := Cond.initialized "ModuleHouseModel") 12 rfl rfl, by decide, by decide +kernel⟩
set_option maxHeartbeats 4000000 in
set_option maxRecDepth 100000 in
theorem xl_case0 {p : Program} {l : Launch} {e : Env} {s : State} {m : MethodId} {below : List Frame} {meth : Method} {c : Code} {b L : Nat} {xs : Nat → Int32} {D : va_G} {ca : Nat → ClassId} {ad am : Nat → Nat} {j : Nat} {uh um : xk_St} {H : Heap} {locs : List Loc} {ls : Array Slot} {a0 a1 a2 a3 x4 : Int32} (hx : p.tables.exec = Jvm.exec) (hb : c.code = code) (hX : va_X b L xs s s.heap) (hbl : b < s.heap.size) (hbA : ¬ s.heap.size ≤ b)
    (C : xl_C D kx_cl (kx_ty ca) "ModuleHouseLaw" code 8 p s m #[Value.ref b] c) (htr : l.stackTraces = false) (hkh : xk_ok (kw_h ad ca) (kd_h ad)) (hkm : xk_ok (kw_m am ca) (kd_m am)) (hah : ∀ q ∈ kd_h ad, s.heap.size ≤ q) (ham : ∀ q ∈ kd_m am, s.heap.size ≤ q) (hdm : ∀ q ∈ kd_m am, q ∉ kd_h ad) (hdh : ∀ q ∈ kd_h ad, q ∉ kd_m am) {fu : Nat} {Rel : xk_St → xk_St → Prop} (hj : j ≤ 512)
    (hv0 : vp_in x4 L) (hv1 : vp_in (x4 + 1) L) (hv2 : vp_in (x4 + 2) L) (hv3 : vp_in (x4 + 3) L) (ea0 : a0 = xs x4.toNatClampNeg) (ea1 : a1 = xs (x4 + 1).toNatClampNeg) (ea2 : a2 = xs (x4 + 2).toNatClampNeg) (ea3 : a3 = xs (x4 + 3).toNatClampNeg)
    (hPh : va_P D kx_cl (kw_h ad ca uh) H) (hPm : va_P D kx_cl (kw_m am ca um) H) (hS : va_S (fun q => s.heap.size ≤ q) s.heap H locs) (hl : lv_has ls 8 [(4, .int x4), (3, .ref (ad 83)), (2, .ref (am 0)), (1, .ref (ad 0)), (0, .ref b)])
    (kend : ∀ (vh vm : xk_St), Rel vh vm → ∀ (H : Heap) (locs : List Loc) (ls : Array Slot), lv_has ls 8 [(4, .int x4), (3, .ref (ad 83)), (2, .ref (am 0)), (1, .ref (ad 0)), (0, .ref b)] → va_P D kx_cl (kw_h ad ca vh) H → va_P D kx_cl (kw_m am ca vm) H → va_S (fun q => s.heap.size ≤ q) s.heap H locs → W p l e room_1 s m #[Value.ref b] below meth c H locs (134 + j + 1) (388493 + 6 * j + 6) (lw_Z below #[Value.ref b] s) (F0 m 563 ls []))
    (hok : a0 &&& 7 = 0 → ∃ (k : Int32) (b : Int32) (vh vm : xk_St), fm_Law_feed fu a1 (xl_v a2 a3) uh = some (k, vh) ∧ fm_Model_feed fu a1 (xl_v a2 a3) um = some (b, vm) ∧ vm.1 0 = k ∧ (k = 0 → vh.2.2.2 13 0 = b.toInt64) ∧ Rel vh vm) (hc : a0 &&& 7 = 0) : W p l e room_1 s m #[Value.ref b] below meth c H locs (134 + j) (388493 + 6 * j) (lw_Z below #[Value.ref b] s) (F0 m 84 ls []) := by
  obtain ⟨k, b0, vh, vm, hq1, hq2, ht, hout, hR2⟩ := hok hc
  refine lv_aload_n hx hb dd_law_84 rfl (lv_at hl 3 rfl) ?_
  refine lv_aload_n hx hb dd_law_85 rfl (lv_at hl 4 rfl) ?_
  refine lv_iload hx hb dd_law_86 (lv_at hl 0 rfl) ?_
  refine lv_iconst (v := 1) hx hb dd_law_88 (by decide) ?_
  refine lv_iadd hx hb dd_law_89 ?_
  refine va_sld hx hb hX hbl hbA hS hv1 dd_law_90 ?_
  refine xr_nami ea1 ?_
  refine lv_aload_n hx hb dd_law_91 rfl (lv_at hl 4 rfl) ?_
  refine lv_iload hx hb dd_law_92 (lv_at hl 0 rfl) ?_
  refine lv_iconst (v := 2) hx hb dd_law_94 (by decide) ?_
  refine lv_iadd hx hb dd_law_95 ?_
  refine va_sld hx hb hX hbl hbA hS hv2 dd_law_96 ?_
  refine xr_nami ea2 ?_
  refine lv_i2l hx hb dd_law_97 rfl ?_
  refine lv_bipush (v := 32) hx hb dd_law_98 (by decide) ?_
  refine lv_lshl hx hb dd_law_100 rfl ?_
  refine lv_aload_n hx hb dd_law_101 rfl (lv_at hl 4 rfl) ?_
  refine lv_iload hx hb dd_law_102 (lv_at hl 0 rfl) ?_
  refine lv_iconst (v := 3) hx hb dd_law_104 (by decide) ?_
  refine lv_iadd hx hb dd_law_105 ?_
  refine va_sld hx hb hX hbl hbA hS hv3 dd_law_106 ?_
  refine xr_nami ea3 ?_
  refine lv_i2l hx hb dd_law_107 rfl ?_
  refine lv_ldc2 (v := 4294967295) hx hb C.1.2.2.2.1 (C.1.2.2.2.2 _ (xk_c11 (w := Jvm.Cond.constantLong "ModuleHouseLaw" 44 4294967295) 201 rfl rfl)) dd_law_108 ?_
  refine lv_land hx hb dd_law_111 ?_
  refine lv_lor hx hb dd_law_112 ?_
  refine xr_naml (y := xl_v a2 a3) rfl ?_
  refine lv_aload_n hx hb dd_law_113 rfl (lv_at hl 1 rfl) ?_
  refine xw_S (v := some (.int k)) (As := [.ref (ad 0), .int a1, .long (xl_v a2 a3), .ref (ad 83)]) (rest := []) C hPh hS hah (ct_Law_feed htr hkh hq1) kl_46 ⟨rfl, rfl, Nat.le_of_ble_eq_true rfl, Nat.le_of_ble_eq_true rfl⟩ ⟨by have h9 := xl_rc; omega, by have h9 := xl_rs; omega⟩ hl.1 rfl rfl (Nat.le_of_ble_eq_true rfl) dd_law_114 (fun H locs hPh hS hkp => ?_)
  replace hPm := xw_keep hPm hdm hkp
  refine W.eq (g2 := F0 m 117 ls [.int k]) rfl ?_
  refine lv_istore (lv' := [(5, .int k), (4, .int x4), (3, .ref (ad 83)), (2, .ref (am 0)), (1, .ref (ad 0)), (0, .ref b)]) hx hb dd_law_117 hl (by decide) rfl (fun ls hl => ?_)
  refine lv_aload_n hx hb dd_law_119 rfl (lv_at hl 3 rfl) ?_
  refine lv_aload_n hx hb dd_law_120 rfl (lv_at hl 5 rfl) ?_
  refine lv_iload hx hb dd_law_121 (lv_at hl 1 rfl) ?_
  refine lv_iconst (v := 1) hx hb dd_law_123 (by decide) ?_
  refine lv_iadd hx hb dd_law_124 ?_
  refine va_sld hx hb hX hbl hbA hS hv1 dd_law_125 ?_
  refine xr_nami ea1 ?_
  refine lv_aload_n hx hb dd_law_126 rfl (lv_at hl 5 rfl) ?_
  refine lv_iload hx hb dd_law_127 (lv_at hl 1 rfl) ?_
  refine lv_iconst (v := 2) hx hb dd_law_129 (by decide) ?_
  refine lv_iadd hx hb dd_law_130 ?_
  refine va_sld hx hb hX hbl hbA hS hv2 dd_law_131 ?_
  refine xr_nami ea2 ?_
  refine lv_i2l hx hb dd_law_132 rfl ?_
  refine lv_bipush (v := 32) hx hb dd_law_133 (by decide) ?_
  refine lv_lshl hx hb dd_law_135 rfl ?_
  refine lv_aload_n hx hb dd_law_136 rfl (lv_at hl 5 rfl) ?_
  refine lv_iload hx hb dd_law_137 (lv_at hl 1 rfl) ?_
  refine lv_iconst (v := 3) hx hb dd_law_139 (by decide) ?_
  refine lv_iadd hx hb dd_law_140 ?_
  refine va_sld hx hb hX hbl hbA hS hv3 dd_law_141 ?_
  refine xr_nami ea3 ?_
  refine lv_i2l hx hb dd_law_142 rfl ?_
  refine lv_ldc2 (v := 4294967295) hx hb C.1.2.2.2.1 (C.1.2.2.2.2 _ (xk_c11 (w := Jvm.Cond.constantLong "ModuleHouseLaw" 44 4294967295) 201 rfl rfl)) dd_law_143 ?_
  refine lv_land hx hb dd_law_146 ?_
  refine lv_lor hx hb dd_law_147 ?_
  refine xr_naml (y := xl_v a2 a3) rfl ?_
  refine xw_V (v := some (.int b0)) (As := [.int a1, .long (xl_v a2 a3)]) (rest := []) C hPm hS ham (ct_Model_feed htr hkm hq2) kl_51 0 11 rfl rfl ⟨rfl, rfl, Nat.le_of_ble_eq_true rfl, Nat.le_of_ble_eq_true rfl⟩ ⟨by have h9 := xl_rc; omega, by have h9 := xl_rs; omega⟩ hl.1 rfl rfl (Nat.le_of_ble_eq_true rfl) dd_law_148 (fun H locs hPm hS hkp => ?_)
  replace hPh := xw_keep hPh hdh hkp
  refine W.eq (g2 := F0 m 151 ls [.int b0]) rfl ?_
  refine lv_istore (lv' := [(6, .int b0), (5, .int k), (4, .int x4), (3, .ref (ad 83)), (2, .ref (am 0)), (1, .ref (ad 0)), (0, .ref b)]) hx hb dd_law_151 hl (by decide) rfl (fun ls hl => ?_)
  refine lv_aload_n hx hb dd_law_153 rfl (lv_at hl 4 rfl) ?_
  refine xw_V (v := some (.int (vm.1 0))) (As := []) (rest := []) C hPm hS ham (ct_Model_thrown htr hkm (rfl : fm_Model_thrown vm = some (vm.1 0, vm))) kl_52 0 11 rfl rfl ⟨rfl, rfl, Nat.le_of_ble_eq_true rfl, Nat.le_of_ble_eq_true rfl⟩ ⟨by have h9 := xl_rc; omega, by have h9 := xl_rs; omega⟩ hl.1 rfl rfl (Nat.le_of_ble_eq_true rfl) dd_law_154 (fun H locs hPm hS hkp => ?_)
  replace hPh := xw_keep hPh hdh hkp
  refine W.eq (g2 := F0 m 157 ls [.int (vm.1 0)]) rfl ?_
  refine lv_iload hx hb dd_law_157 (lv_at hl 1 rfl) ?_
  refine lv_icmp_eq (tgt := 164) hx hb dd_law_159 (by decide) (fun hz => ?_) (fun hz => absurd ht hz)
  refine lv_iload hx hb dd_law_164 (lv_at hl 1 rfl) ?_
  refine lv_if_ne (tgt := 181) hx hb dd_law_166 (by decide) (fun hz => ?_) (fun hz => ?_)
  · refine lv_goto (tgt := 563) hx hb dd_law_181 (by decide) ?_
    exact kend vh vm hR2 _ _ _ (lv_sub hl [2, 3, 4, 5, 6] rfl) hPh hPm hS
  refine lv_aload_n hx hb dd_law_169 rfl (lv_at hl 3 rfl) ?_
  refine lv_iconst (v := 0) hx hb dd_law_170 (by decide) ?_
  refine va_lald hx hb C.2.1 hPh 83 2 rfl rfl (show ¬ ((0 : Int32) < 0 ∨ 1 ≤ (0 : Int32).toNatClampNeg) by decide) dd_law_171 ?_
  refine lv_iload hx hb dd_law_172 (lv_at hl 0 rfl) ?_
  refine lv_i2l hx hb dd_law_174 rfl ?_
  refine xr_lc_eq (tgt := 181) hx hb dd_law_175 dd_law_176 (by decide) (fun hy => ?_) (fun hy => absurd (hout hz) hy)
  refine lv_goto (tgt := 563) hx hb dd_law_181 (by decide) ?_
  exact kend vh vm hR2 _ _ _ (lv_sub hl [2, 3, 4, 5, 6] rfl) hPh hPm hS
set_option maxHeartbeats 4000000 in
set_option maxRecDepth 100000 in
theorem xl_case1 {p : Program} {l : Launch} {e : Env} {s : State} {m : MethodId} {below : List Frame} {meth : Method} {c : Code} {b L : Nat} {xs : Nat → Int32} {D : va_G} {ca : Nat → ClassId} {ad am : Nat → Nat} {j : Nat} {uh um : xk_St} {H : Heap} {locs : List Loc} {ls : Array Slot} {a0 a1 a2 a3 x4 : Int32} (hx : p.tables.exec = Jvm.exec) (hb : c.code = code) (hX : va_X b L xs s s.heap) (hbl : b < s.heap.size) (hbA : ¬ s.heap.size ≤ b)
    (C : xl_C D kx_cl (kx_ty ca) "ModuleHouseLaw" code 8 p s m #[Value.ref b] c) (htr : l.stackTraces = false) (hkh : xk_ok (kw_h ad ca) (kd_h ad)) (hkm : xk_ok (kw_m am ca) (kd_m am)) (hah : ∀ q ∈ kd_h ad, s.heap.size ≤ q) (ham : ∀ q ∈ kd_m am, s.heap.size ≤ q) (hdm : ∀ q ∈ kd_m am, q ∉ kd_h ad) (hdh : ∀ q ∈ kd_h ad, q ∉ kd_m am) {fu : Nat} {Rel : xk_St → xk_St → Prop} (hj : j ≤ 512)
    (hv0 : vp_in x4 L) (hv1 : vp_in (x4 + 1) L) (hv2 : vp_in (x4 + 2) L) (hv3 : vp_in (x4 + 3) L) (ea0 : a0 = xs x4.toNatClampNeg) (ea1 : a1 = xs (x4 + 1).toNatClampNeg) (ea2 : a2 = xs (x4 + 2).toNatClampNeg) (ea3 : a3 = xs (x4 + 3).toNatClampNeg)
    (hPh : va_P D kx_cl (kw_h ad ca uh) H) (hPm : va_P D kx_cl (kw_m am ca um) H) (hS : va_S (fun q => s.heap.size ≤ q) s.heap H locs) (hl : lv_has ls 8 [(4, .int x4), (3, .ref (ad 83)), (2, .ref (am 0)), (1, .ref (ad 0)), (0, .ref b)])
    (kend : ∀ (vh vm : xk_St), Rel vh vm → ∀ (H : Heap) (locs : List Loc) (ls : Array Slot), lv_has ls 8 [(4, .int x4), (3, .ref (ad 83)), (2, .ref (am 0)), (1, .ref (ad 0)), (0, .ref b)] → va_P D kx_cl (kw_h ad ca vh) H → va_P D kx_cl (kw_m am ca vm) H → va_S (fun q => s.heap.size ≤ q) s.heap H locs → W p l e room_1 s m #[Value.ref b] below meth c H locs (134 + j + 1) (388493 + 6 * j + 6) (lw_Z below #[Value.ref b] s) (F0 m 563 ls []))
    (hok : a0 &&& 7 = 1 → ∃ (r : Int32) (vh vm : xk_St), fm_House_load fu uh = some (r, vh) ∧ fm_Model_load fu um = some (r, vm) ∧ Rel vh vm) (hc : a0 &&& 7 = 1) : W p l e room_1 s m #[Value.ref b] below meth c H locs (134 + j) (388493 + 6 * j) (lw_Z below #[Value.ref b] s) (F0 m 184 ls []) := by
  obtain ⟨r, vh, vm, hq1, hq2, hR2⟩ := hok hc
  refine lv_aload_n hx hb dd_law_184 rfl (lv_at hl 3 rfl) ?_
  refine xw_L (v := some (.int r)) (As := []) (rest := []) C hPh hS hah (ct_House_load htr hkh hq1) kl_56 0 0 rfl rfl ⟨rfl, rfl, Nat.le_of_ble_eq_true rfl, Nat.le_of_ble_eq_true rfl⟩ ⟨by have h9 := xl_rc; omega, by have h9 := xl_rs; omega⟩ hl.1 rfl rfl (Nat.le_of_ble_eq_true rfl) dd_law_185 (fun H locs hPh hS hkp => ?_)
  replace hPm := xw_keep hPm hdm hkp
  refine W.eq (g2 := F0 m 188 ls [.int r]) rfl ?_
  refine lv_aload_n hx hb dd_law_188 rfl (lv_at hl 2 rfl) ?_
  refine xw_V (v := some (.int r)) (As := []) (rest := [.int r]) C hPm hS ham (ct_Model_load htr hkm hq2) kl_59 0 11 rfl rfl ⟨rfl, rfl, Nat.le_of_ble_eq_true rfl, Nat.le_of_ble_eq_true rfl⟩ ⟨by have h9 := xl_rc; omega, by have h9 := xl_rs; omega⟩ hl.1 rfl rfl (Nat.le_of_ble_eq_true rfl) dd_law_189 (fun H locs hPm hS hkp => ?_)
  replace hPh := xw_keep hPh hdh hkp
  refine W.eq (g2 := F0 m 192 ls [.int r, .int r]) rfl ?_
  refine lv_icmp_eq (tgt := 563) hx hb dd_law_192 (by decide) (fun hz => ?_) (fun hz => absurd rfl hz)
  exact kend vh vm hR2 _ _ _ (lv_sub hl [0, 1, 2, 3, 4] rfl) hPh hPm hS
set_option maxHeartbeats 4000000 in
set_option maxRecDepth 100000 in
theorem xl_case2 {p : Program} {l : Launch} {e : Env} {s : State} {m : MethodId} {below : List Frame} {meth : Method} {c : Code} {b L : Nat} {xs : Nat → Int32} {D : va_G} {ca : Nat → ClassId} {ad am : Nat → Nat} {j : Nat} {uh um : xk_St} {H : Heap} {locs : List Loc} {ls : Array Slot} {a0 a1 a2 a3 x4 : Int32} (hx : p.tables.exec = Jvm.exec) (hb : c.code = code) (hX : va_X b L xs s s.heap) (hbl : b < s.heap.size) (hbA : ¬ s.heap.size ≤ b)
    (C : xl_C D kx_cl (kx_ty ca) "ModuleHouseLaw" code 8 p s m #[Value.ref b] c) (htr : l.stackTraces = false) (hkh : xk_ok (kw_h ad ca) (kd_h ad)) (hkm : xk_ok (kw_m am ca) (kd_m am)) (hah : ∀ q ∈ kd_h ad, s.heap.size ≤ q) (ham : ∀ q ∈ kd_m am, s.heap.size ≤ q) (hdm : ∀ q ∈ kd_m am, q ∉ kd_h ad) (hdh : ∀ q ∈ kd_h ad, q ∉ kd_m am) {fu : Nat} {Rel : xk_St → xk_St → Prop} (hj : j ≤ 512)
    (hv0 : vp_in x4 L) (hv1 : vp_in (x4 + 1) L) (hv2 : vp_in (x4 + 2) L) (hv3 : vp_in (x4 + 3) L) (ea0 : a0 = xs x4.toNatClampNeg) (ea1 : a1 = xs (x4 + 1).toNatClampNeg) (ea2 : a2 = xs (x4 + 2).toNatClampNeg) (ea3 : a3 = xs (x4 + 3).toNatClampNeg)
    (hPh : va_P D kx_cl (kw_h ad ca uh) H) (hPm : va_P D kx_cl (kw_m am ca um) H) (hS : va_S (fun q => s.heap.size ≤ q) s.heap H locs) (hl : lv_has ls 8 [(4, .int x4), (3, .ref (ad 83)), (2, .ref (am 0)), (1, .ref (ad 0)), (0, .ref b)])
    (kend : ∀ (vh vm : xk_St), Rel vh vm → ∀ (H : Heap) (locs : List Loc) (ls : Array Slot), lv_has ls 8 [(4, .int x4), (3, .ref (ad 83)), (2, .ref (am 0)), (1, .ref (ad 0)), (0, .ref b)] → va_P D kx_cl (kw_h ad ca vh) H → va_P D kx_cl (kw_m am ca vm) H → va_S (fun q => s.heap.size ≤ q) s.heap H locs → W p l e room_1 s m #[Value.ref b] below meth c H locs (134 + j + 1) (388493 + 6 * j + 6) (lw_Z below #[Value.ref b] s) (F0 m 563 ls []))
    (hok : a0 &&& 7 = 2 → ∃ (k : Int32) (b : Int32) (vh vm : xk_St), fm_Law_give (xl_v a1 a2) uh = some (k, vh) ∧ fm_Model_give (xl_v a1 a2) um = some (b, vm) ∧ vm.1 0 = k ∧ (k = 0 → vh.2.2.2 13 0 = b.toInt64) ∧ Rel vh vm) (hc : a0 &&& 7 = 2) : W p l e room_1 s m #[Value.ref b] below meth c H locs (134 + j) (388493 + 6 * j) (lw_Z below #[Value.ref b] s) (F0 m 197 ls []) := by
  obtain ⟨k, b0, vh, vm, hq1, hq2, ht, hout, hR2⟩ := hok hc
  refine lv_aload_n hx hb dd_law_197 rfl (lv_at hl 3 rfl) ?_
  refine lv_aload_n hx hb dd_law_198 rfl (lv_at hl 4 rfl) ?_
  refine lv_iload hx hb dd_law_199 (lv_at hl 0 rfl) ?_
  refine lv_iconst (v := 1) hx hb dd_law_201 (by decide) ?_
  refine lv_iadd hx hb dd_law_202 ?_
  refine va_sld hx hb hX hbl hbA hS hv1 dd_law_203 ?_
  refine xr_nami ea1 ?_
  refine lv_i2l hx hb dd_law_204 rfl ?_
  refine lv_bipush (v := 32) hx hb dd_law_205 (by decide) ?_
  refine lv_lshl hx hb dd_law_207 rfl ?_
  refine lv_aload_n hx hb dd_law_208 rfl (lv_at hl 4 rfl) ?_
  refine lv_iload hx hb dd_law_209 (lv_at hl 0 rfl) ?_
  refine lv_iconst (v := 2) hx hb dd_law_211 (by decide) ?_
  refine lv_iadd hx hb dd_law_212 ?_
  refine va_sld hx hb hX hbl hbA hS hv2 dd_law_213 ?_
  refine xr_nami ea2 ?_
  refine lv_i2l hx hb dd_law_214 rfl ?_
  refine lv_ldc2 (v := 4294967295) hx hb C.1.2.2.2.1 (C.1.2.2.2.2 _ (xk_c11 (w := Jvm.Cond.constantLong "ModuleHouseLaw" 44 4294967295) 201 rfl rfl)) dd_law_215 ?_
  refine lv_land hx hb dd_law_218 ?_
  refine lv_lor hx hb dd_law_219 ?_
  refine xr_naml (y := xl_v a1 a2) rfl ?_
  refine lv_aload_n hx hb dd_law_220 rfl (lv_at hl 1 rfl) ?_
  refine xw_S (v := some (.int k)) (As := [.ref (ad 0), .long (xl_v a1 a2), .ref (ad 83)]) (rest := []) C hPh hS hah (ct_Law_give htr hkh hq1) kl_60 ⟨rfl, rfl, Nat.le_of_ble_eq_true rfl, Nat.le_of_ble_eq_true rfl⟩ ⟨by have h9 := xl_rc; omega, by have h9 := xl_rs; omega⟩ hl.1 rfl rfl (Nat.le_of_ble_eq_true rfl) dd_law_221 (fun H locs hPh hS hkp => ?_)
  replace hPm := xw_keep hPm hdm hkp
  refine W.eq (g2 := F0 m 224 ls [.int k]) rfl ?_
  refine lv_istore (lv' := [(5, .int k), (4, .int x4), (3, .ref (ad 83)), (2, .ref (am 0)), (1, .ref (ad 0)), (0, .ref b)]) hx hb dd_law_224 hl (by decide) rfl (fun ls hl => ?_)
  refine lv_aload_n hx hb dd_law_226 rfl (lv_at hl 3 rfl) ?_
  refine lv_aload_n hx hb dd_law_227 rfl (lv_at hl 5 rfl) ?_
  refine lv_iload hx hb dd_law_228 (lv_at hl 1 rfl) ?_
  refine lv_iconst (v := 1) hx hb dd_law_230 (by decide) ?_
  refine lv_iadd hx hb dd_law_231 ?_
  refine va_sld hx hb hX hbl hbA hS hv1 dd_law_232 ?_
  refine xr_nami ea1 ?_
  refine lv_i2l hx hb dd_law_233 rfl ?_
  refine lv_bipush (v := 32) hx hb dd_law_234 (by decide) ?_
  refine lv_lshl hx hb dd_law_236 rfl ?_
  refine lv_aload_n hx hb dd_law_237 rfl (lv_at hl 5 rfl) ?_
  refine lv_iload hx hb dd_law_238 (lv_at hl 1 rfl) ?_
  refine lv_iconst (v := 2) hx hb dd_law_240 (by decide) ?_
  refine lv_iadd hx hb dd_law_241 ?_
  refine va_sld hx hb hX hbl hbA hS hv2 dd_law_242 ?_
  refine xr_nami ea2 ?_
  refine lv_i2l hx hb dd_law_243 rfl ?_
  refine lv_ldc2 (v := 4294967295) hx hb C.1.2.2.2.1 (C.1.2.2.2.2 _ (xk_c11 (w := Jvm.Cond.constantLong "ModuleHouseLaw" 44 4294967295) 201 rfl rfl)) dd_law_244 ?_
  refine lv_land hx hb dd_law_247 ?_
  refine lv_lor hx hb dd_law_248 ?_
  refine xr_naml (y := xl_v a1 a2) rfl ?_
  refine xw_V (v := some (.int b0)) (As := [.long (xl_v a1 a2)]) (rest := []) C hPm hS ham (ct_Model_give htr hkm hq2) kl_63 0 11 rfl rfl ⟨rfl, rfl, Nat.le_of_ble_eq_true rfl, Nat.le_of_ble_eq_true rfl⟩ ⟨by have h9 := xl_rc; omega, by have h9 := xl_rs; omega⟩ hl.1 rfl rfl (Nat.le_of_ble_eq_true rfl) dd_law_249 (fun H locs hPm hS hkp => ?_)
  replace hPh := xw_keep hPh hdh hkp
  refine W.eq (g2 := F0 m 252 ls [.int b0]) rfl ?_
  refine lv_istore (lv' := [(6, .int b0), (5, .int k), (4, .int x4), (3, .ref (ad 83)), (2, .ref (am 0)), (1, .ref (ad 0)), (0, .ref b)]) hx hb dd_law_252 hl (by decide) rfl (fun ls hl => ?_)
  refine lv_aload_n hx hb dd_law_254 rfl (lv_at hl 4 rfl) ?_
  refine xw_V (v := some (.int (vm.1 0))) (As := []) (rest := []) C hPm hS ham (ct_Model_thrown htr hkm (rfl : fm_Model_thrown vm = some (vm.1 0, vm))) kl_52 0 11 rfl rfl ⟨rfl, rfl, Nat.le_of_ble_eq_true rfl, Nat.le_of_ble_eq_true rfl⟩ ⟨by have h9 := xl_rc; omega, by have h9 := xl_rs; omega⟩ hl.1 rfl rfl (Nat.le_of_ble_eq_true rfl) dd_law_255 (fun H locs hPm hS hkp => ?_)
  replace hPh := xw_keep hPh hdh hkp
  refine W.eq (g2 := F0 m 258 ls [.int (vm.1 0)]) rfl ?_
  refine lv_iload hx hb dd_law_258 (lv_at hl 1 rfl) ?_
  refine lv_icmp_eq (tgt := 265) hx hb dd_law_260 (by decide) (fun hz => ?_) (fun hz => absurd ht hz)
  refine lv_iload hx hb dd_law_265 (lv_at hl 1 rfl) ?_
  refine lv_if_ne (tgt := 282) hx hb dd_law_267 (by decide) (fun hz => ?_) (fun hz => ?_)
  · refine lv_goto (tgt := 563) hx hb dd_law_282 (by decide) ?_
    exact kend vh vm hR2 _ _ _ (lv_sub hl [2, 3, 4, 5, 6] rfl) hPh hPm hS
  refine lv_aload_n hx hb dd_law_270 rfl (lv_at hl 3 rfl) ?_
  refine lv_iconst (v := 0) hx hb dd_law_271 (by decide) ?_
  refine va_lald hx hb C.2.1 hPh 83 2 rfl rfl (show ¬ ((0 : Int32) < 0 ∨ 1 ≤ (0 : Int32).toNatClampNeg) by decide) dd_law_272 ?_
  refine lv_iload hx hb dd_law_273 (lv_at hl 0 rfl) ?_
  refine lv_i2l hx hb dd_law_275 rfl ?_
  refine xr_lc_eq (tgt := 282) hx hb dd_law_276 dd_law_277 (by decide) (fun hy => ?_) (fun hy => absurd (hout hz) hy)
  refine lv_goto (tgt := 563) hx hb dd_law_282 (by decide) ?_
  exact kend vh vm hR2 _ _ _ (lv_sub hl [2, 3, 4, 5, 6] rfl) hPh hPm hS
set_option maxHeartbeats 4000000 in
set_option maxRecDepth 100000 in
theorem xl_case3 {p : Program} {l : Launch} {e : Env} {s : State} {m : MethodId} {below : List Frame} {meth : Method} {c : Code} {b L : Nat} {xs : Nat → Int32} {D : va_G} {ca : Nat → ClassId} {ad am : Nat → Nat} {j : Nat} {uh um : xk_St} {H : Heap} {locs : List Loc} {ls : Array Slot} {a0 a1 a2 a3 x4 : Int32} (hx : p.tables.exec = Jvm.exec) (hb : c.code = code) (hX : va_X b L xs s s.heap) (hbl : b < s.heap.size) (hbA : ¬ s.heap.size ≤ b)
    (C : xl_C D kx_cl (kx_ty ca) "ModuleHouseLaw" code 8 p s m #[Value.ref b] c) (htr : l.stackTraces = false) (hkh : xk_ok (kw_h ad ca) (kd_h ad)) (hkm : xk_ok (kw_m am ca) (kd_m am)) (hah : ∀ q ∈ kd_h ad, s.heap.size ≤ q) (ham : ∀ q ∈ kd_m am, s.heap.size ≤ q) (hdm : ∀ q ∈ kd_m am, q ∉ kd_h ad) (hdh : ∀ q ∈ kd_h ad, q ∉ kd_m am) {fu : Nat} {Rel : xk_St → xk_St → Prop} (hj : j ≤ 512)
    (hv0 : vp_in x4 L) (hv1 : vp_in (x4 + 1) L) (hv2 : vp_in (x4 + 2) L) (hv3 : vp_in (x4 + 3) L) (ea0 : a0 = xs x4.toNatClampNeg) (ea1 : a1 = xs (x4 + 1).toNatClampNeg) (ea2 : a2 = xs (x4 + 2).toNatClampNeg) (ea3 : a3 = xs (x4 + 3).toNatClampNeg)
    (hPh : va_P D kx_cl (kw_h ad ca uh) H) (hPm : va_P D kx_cl (kw_m am ca um) H) (hS : va_S (fun q => s.heap.size ≤ q) s.heap H locs) (hl : lv_has ls 8 [(4, .int x4), (3, .ref (ad 83)), (2, .ref (am 0)), (1, .ref (ad 0)), (0, .ref b)])
    (kend : ∀ (vh vm : xk_St), Rel vh vm → ∀ (H : Heap) (locs : List Loc) (ls : Array Slot), lv_has ls 8 [(4, .int x4), (3, .ref (ad 83)), (2, .ref (am 0)), (1, .ref (ad 0)), (0, .ref b)] → va_P D kx_cl (kw_h ad ca vh) H → va_P D kx_cl (kw_m am ca vm) H → va_S (fun q => s.heap.size ≤ q) s.heap H locs → W p l e room_1 s m #[Value.ref b] below meth c H locs (134 + j + 1) (388493 + 6 * j + 6) (lw_Z below #[Value.ref b] s) (F0 m 563 ls []))
    (hok : a0 &&& 7 = 3 → ∃ (k : Int32) (b : Int32) (vh vm : xk_St), fm_Law_call fu a1 uh = some (k, vh) ∧ fm_Model_call fu a1 um = some (b, vm) ∧ vm.1 0 = k ∧ (k = 0 → vh.2.2.2 13 0 = b.toInt64) ∧ Rel vh vm) (hc : a0 &&& 7 = 3) : W p l e room_1 s m #[Value.ref b] below meth c H locs (134 + j) (388493 + 6 * j) (lw_Z below #[Value.ref b] s) (F0 m 285 ls []) := by
  obtain ⟨k, b0, vh, vm, hq1, hq2, ht, hout, hR2⟩ := hok hc
  refine lv_aload_n hx hb dd_law_285 rfl (lv_at hl 3 rfl) ?_
  refine lv_aload_n hx hb dd_law_286 rfl (lv_at hl 4 rfl) ?_
  refine lv_iload hx hb dd_law_287 (lv_at hl 0 rfl) ?_
  refine lv_iconst (v := 1) hx hb dd_law_289 (by decide) ?_
  refine lv_iadd hx hb dd_law_290 ?_
  refine va_sld hx hb hX hbl hbA hS hv1 dd_law_291 ?_
  refine xr_nami ea1 ?_
  refine lv_aload_n hx hb dd_law_292 rfl (lv_at hl 1 rfl) ?_
  refine xw_S (v := some (.int k)) (As := [.ref (ad 0), .int a1, .ref (ad 83)]) (rest := []) C hPh hS hah (ct_Law_call htr hkh hq1) kl_64 ⟨rfl, rfl, Nat.le_of_ble_eq_true rfl, Nat.le_of_ble_eq_true rfl⟩ ⟨by have h9 := xl_rc; omega, by have h9 := xl_rs; omega⟩ hl.1 rfl rfl (Nat.le_of_ble_eq_true rfl) dd_law_293 (fun H locs hPh hS hkp => ?_)
  replace hPm := xw_keep hPm hdm hkp
  refine W.eq (g2 := F0 m 296 ls [.int k]) rfl ?_
  refine lv_istore (lv' := [(5, .int k), (4, .int x4), (3, .ref (ad 83)), (2, .ref (am 0)), (1, .ref (ad 0)), (0, .ref b)]) hx hb dd_law_296 hl (by decide) rfl (fun ls hl => ?_)
  refine lv_aload_n hx hb dd_law_298 rfl (lv_at hl 3 rfl) ?_
  refine lv_aload_n hx hb dd_law_299 rfl (lv_at hl 5 rfl) ?_
  refine lv_iload hx hb dd_law_300 (lv_at hl 1 rfl) ?_
  refine lv_iconst (v := 1) hx hb dd_law_302 (by decide) ?_
  refine lv_iadd hx hb dd_law_303 ?_
  refine va_sld hx hb hX hbl hbA hS hv1 dd_law_304 ?_
  refine xr_nami ea1 ?_
  refine xw_V (v := some (.int b0)) (As := [.int a1]) (rest := []) C hPm hS ham (ct_Model_call htr hkm hq2) kl_67 0 11 rfl rfl ⟨rfl, rfl, Nat.le_of_ble_eq_true rfl, Nat.le_of_ble_eq_true rfl⟩ ⟨by have h9 := xl_rc; omega, by have h9 := xl_rs; omega⟩ hl.1 rfl rfl (Nat.le_of_ble_eq_true rfl) dd_law_305 (fun H locs hPm hS hkp => ?_)
  replace hPh := xw_keep hPh hdh hkp
  refine W.eq (g2 := F0 m 308 ls [.int b0]) rfl ?_
  refine lv_istore (lv' := [(6, .int b0), (5, .int k), (4, .int x4), (3, .ref (ad 83)), (2, .ref (am 0)), (1, .ref (ad 0)), (0, .ref b)]) hx hb dd_law_308 hl (by decide) rfl (fun ls hl => ?_)
  refine lv_aload_n hx hb dd_law_310 rfl (lv_at hl 4 rfl) ?_
  refine xw_V (v := some (.int (vm.1 0))) (As := []) (rest := []) C hPm hS ham (ct_Model_thrown htr hkm (rfl : fm_Model_thrown vm = some (vm.1 0, vm))) kl_52 0 11 rfl rfl ⟨rfl, rfl, Nat.le_of_ble_eq_true rfl, Nat.le_of_ble_eq_true rfl⟩ ⟨by have h9 := xl_rc; omega, by have h9 := xl_rs; omega⟩ hl.1 rfl rfl (Nat.le_of_ble_eq_true rfl) dd_law_311 (fun H locs hPm hS hkp => ?_)
  replace hPh := xw_keep hPh hdh hkp
  refine W.eq (g2 := F0 m 314 ls [.int (vm.1 0)]) rfl ?_
  refine lv_iload hx hb dd_law_314 (lv_at hl 1 rfl) ?_
  refine lv_icmp_eq (tgt := 321) hx hb dd_law_316 (by decide) (fun hz => ?_) (fun hz => absurd ht hz)
  refine lv_iload hx hb dd_law_321 (lv_at hl 1 rfl) ?_
  refine lv_if_ne (tgt := 338) hx hb dd_law_323 (by decide) (fun hz => ?_) (fun hz => ?_)
  · refine lv_goto (tgt := 563) hx hb dd_law_338 (by decide) ?_
    exact kend vh vm hR2 _ _ _ (lv_sub hl [2, 3, 4, 5, 6] rfl) hPh hPm hS
  refine lv_aload_n hx hb dd_law_326 rfl (lv_at hl 3 rfl) ?_
  refine lv_iconst (v := 0) hx hb dd_law_327 (by decide) ?_
  refine va_lald hx hb C.2.1 hPh 83 2 rfl rfl (show ¬ ((0 : Int32) < 0 ∨ 1 ≤ (0 : Int32).toNatClampNeg) by decide) dd_law_328 ?_
  refine lv_iload hx hb dd_law_329 (lv_at hl 0 rfl) ?_
  refine lv_i2l hx hb dd_law_331 rfl ?_
  refine xr_lc_eq (tgt := 338) hx hb dd_law_332 dd_law_333 (by decide) (fun hy => ?_) (fun hy => absurd (hout hz) hy)
  refine lv_goto (tgt := 563) hx hb dd_law_338 (by decide) ?_
  exact kend vh vm hR2 _ _ _ (lv_sub hl [2, 3, 4, 5, 6] rfl) hPh hPm hS
set_option maxHeartbeats 4000000 in
set_option maxRecDepth 100000 in
theorem xl_case4 {p : Program} {l : Launch} {e : Env} {s : State} {m : MethodId} {below : List Frame} {meth : Method} {c : Code} {b L : Nat} {xs : Nat → Int32} {D : va_G} {ca : Nat → ClassId} {ad am : Nat → Nat} {j : Nat} {uh um : xk_St} {H : Heap} {locs : List Loc} {ls : Array Slot} {a0 a1 a2 a3 x4 : Int32} (hx : p.tables.exec = Jvm.exec) (hb : c.code = code) (hX : va_X b L xs s s.heap) (hbl : b < s.heap.size) (hbA : ¬ s.heap.size ≤ b)
    (C : xl_C D kx_cl (kx_ty ca) "ModuleHouseLaw" code 8 p s m #[Value.ref b] c) (htr : l.stackTraces = false) (hkh : xk_ok (kw_h ad ca) (kd_h ad)) (hkm : xk_ok (kw_m am ca) (kd_m am)) (hah : ∀ q ∈ kd_h ad, s.heap.size ≤ q) (ham : ∀ q ∈ kd_m am, s.heap.size ≤ q) (hdm : ∀ q ∈ kd_m am, q ∉ kd_h ad) (hdh : ∀ q ∈ kd_h ad, q ∉ kd_m am) {fu : Nat} {Rel : xk_St → xk_St → Prop} (hj : j ≤ 512)
    (hv0 : vp_in x4 L) (hv1 : vp_in (x4 + 1) L) (hv2 : vp_in (x4 + 2) L) (hv3 : vp_in (x4 + 3) L) (ea0 : a0 = xs x4.toNatClampNeg) (ea1 : a1 = xs (x4 + 1).toNatClampNeg) (ea2 : a2 = xs (x4 + 2).toNatClampNeg) (ea3 : a3 = xs (x4 + 3).toNatClampNeg)
    (hPh : va_P D kx_cl (kw_h ad ca uh) H) (hPm : va_P D kx_cl (kw_m am ca um) H) (hS : va_S (fun q => s.heap.size ≤ q) s.heap H locs) (hl : lv_has ls 8 [(4, .int x4), (3, .ref (ad 83)), (2, .ref (am 0)), (1, .ref (ad 0)), (0, .ref b)])
    (kend : ∀ (vh vm : xk_St), Rel vh vm → ∀ (H : Heap) (locs : List Loc) (ls : Array Slot), lv_has ls 8 [(4, .int x4), (3, .ref (ad 83)), (2, .ref (am 0)), (1, .ref (ad 0)), (0, .ref b)] → va_P D kx_cl (kw_h ad ca vh) H → va_P D kx_cl (kw_m am ca vm) H → va_S (fun q => s.heap.size ≤ q) s.heap H locs → W p l e room_1 s m #[Value.ref b] below meth c H locs (134 + j + 1) (388493 + 6 * j + 6) (lw_Z below #[Value.ref b] s) (F0 m 563 ls []))
    (hok : a0 &&& 7 = 4 → ∃ (k : Int32) (b : Int64) (vh vm : xk_St), fm_Law_result a1 uh = some (k, vh) ∧ fm_Model_result a1 um = some (b, vm) ∧ vm.1 0 = k ∧ (k = 0 → vh.2.2.2 13 0 = b) ∧ Rel vh vm) (hc : a0 &&& 7 = 4) : W p l e room_1 s m #[Value.ref b] below meth c H locs (134 + j) (388493 + 6 * j) (lw_Z below #[Value.ref b] s) (F0 m 341 ls []) := by
  obtain ⟨k, b0, vh, vm, hq1, hq2, ht, hout, hR2⟩ := hok hc
  refine lv_aload_n hx hb dd_law_341 rfl (lv_at hl 3 rfl) ?_
  refine lv_aload_n hx hb dd_law_342 rfl (lv_at hl 4 rfl) ?_
  refine lv_iload hx hb dd_law_343 (lv_at hl 0 rfl) ?_
  refine lv_iconst (v := 1) hx hb dd_law_345 (by decide) ?_
  refine lv_iadd hx hb dd_law_346 ?_
  refine va_sld hx hb hX hbl hbA hS hv1 dd_law_347 ?_
  refine xr_nami ea1 ?_
  refine lv_aload_n hx hb dd_law_348 rfl (lv_at hl 1 rfl) ?_
  refine xw_S (v := some (.int k)) (As := [.ref (ad 0), .int a1, .ref (ad 83)]) (rest := []) C hPh hS hah (ct_Law_result htr hkh hq1) kl_68 ⟨rfl, rfl, Nat.le_of_ble_eq_true rfl, Nat.le_of_ble_eq_true rfl⟩ ⟨by have h9 := xl_rc; omega, by have h9 := xl_rs; omega⟩ hl.1 rfl rfl (Nat.le_of_ble_eq_true rfl) dd_law_349 (fun H locs hPh hS hkp => ?_)
  replace hPm := xw_keep hPm hdm hkp
  refine W.eq (g2 := F0 m 352 ls [.int k]) rfl ?_
  refine lv_istore (lv' := [(5, .int k), (4, .int x4), (3, .ref (ad 83)), (2, .ref (am 0)), (1, .ref (ad 0)), (0, .ref b)]) hx hb dd_law_352 hl (by decide) rfl (fun ls hl => ?_)
  refine lv_aload_n hx hb dd_law_354 rfl (lv_at hl 3 rfl) ?_
  refine lv_aload_n hx hb dd_law_355 rfl (lv_at hl 5 rfl) ?_
  refine lv_iload hx hb dd_law_356 (lv_at hl 1 rfl) ?_
  refine lv_iconst (v := 1) hx hb dd_law_358 (by decide) ?_
  refine lv_iadd hx hb dd_law_359 ?_
  refine va_sld hx hb hX hbl hbA hS hv1 dd_law_360 ?_
  refine xr_nami ea1 ?_
  refine xw_V (v := some (.long b0)) (As := [.int a1]) (rest := []) C hPm hS ham (ct_Model_result htr hkm hq2) kl_70 0 11 rfl rfl ⟨rfl, rfl, Nat.le_of_ble_eq_true rfl, Nat.le_of_ble_eq_true rfl⟩ ⟨by have h9 := xl_rc; omega, by have h9 := xl_rs; omega⟩ hl.1 rfl rfl (Nat.le_of_ble_eq_true rfl) dd_law_361 (fun H locs hPm hS hkp => ?_)
  replace hPh := xw_keep hPh hdh hkp
  refine W.eq (g2 := F0 m 364 ls [.long b0]) rfl ?_
  refine lv_lstore (lv' := [(6, .long b0), (5, .int k), (4, .int x4), (3, .ref (ad 83)), (2, .ref (am 0)), (1, .ref (ad 0)), (0, .ref b)]) hx hb dd_law_364 hl (by decide) rfl (fun ls hl => ?_)
  refine lv_aload_n hx hb dd_law_366 rfl (lv_at hl 4 rfl) ?_
  refine xw_V (v := some (.int (vm.1 0))) (As := []) (rest := []) C hPm hS ham (ct_Model_thrown htr hkm (rfl : fm_Model_thrown vm = some (vm.1 0, vm))) kl_52 0 11 rfl rfl ⟨rfl, rfl, Nat.le_of_ble_eq_true rfl, Nat.le_of_ble_eq_true rfl⟩ ⟨by have h9 := xl_rc; omega, by have h9 := xl_rs; omega⟩ hl.1 rfl rfl (Nat.le_of_ble_eq_true rfl) dd_law_367 (fun H locs hPm hS hkp => ?_)
  replace hPh := xw_keep hPh hdh hkp
  refine W.eq (g2 := F0 m 370 ls [.int (vm.1 0)]) rfl ?_
  refine lv_iload hx hb dd_law_370 (lv_at hl 1 rfl) ?_
  refine lv_icmp_eq (tgt := 377) hx hb dd_law_372 (by decide) (fun hz => ?_) (fun hz => absurd ht hz)
  refine lv_iload hx hb dd_law_377 (lv_at hl 1 rfl) ?_
  refine lv_if_ne (tgt := 393) hx hb dd_law_379 (by decide) (fun hz => ?_) (fun hz => ?_)
  · refine lv_goto (tgt := 563) hx hb dd_law_393 (by decide) ?_
    exact kend vh vm hR2 _ _ _ (lv_sub hl [2, 3, 4, 5, 6] rfl) hPh hPm hS
  refine lv_aload_n hx hb dd_law_382 rfl (lv_at hl 3 rfl) ?_
  refine lv_iconst (v := 0) hx hb dd_law_383 (by decide) ?_
  refine va_lald hx hb C.2.1 hPh 83 2 rfl rfl (show ¬ ((0 : Int32) < 0 ∨ 1 ≤ (0 : Int32).toNatClampNeg) by decide) dd_law_384 ?_
  refine lv_lload hx hb dd_law_385 (lv_at hl 0 rfl) ?_
  refine xr_lc_eq (tgt := 393) hx hb dd_law_387 dd_law_388 (by decide) (fun hy => ?_) (fun hy => absurd (hout hz) hy)
  refine lv_goto (tgt := 563) hx hb dd_law_393 (by decide) ?_
  exact kend vh vm hR2 _ _ _ (lv_sub hl [2, 3, 4, 5, 6] rfl) hPh hPm hS
set_option maxHeartbeats 4000000 in
set_option maxRecDepth 100000 in
theorem xl_case5 {p : Program} {l : Launch} {e : Env} {s : State} {m : MethodId} {below : List Frame} {meth : Method} {c : Code} {b L : Nat} {xs : Nat → Int32} {D : va_G} {ca : Nat → ClassId} {ad am : Nat → Nat} {j : Nat} {uh um : xk_St} {H : Heap} {locs : List Loc} {ls : Array Slot} {a0 a1 a2 a3 x4 : Int32} (hx : p.tables.exec = Jvm.exec) (hb : c.code = code) (hX : va_X b L xs s s.heap) (hbl : b < s.heap.size) (hbA : ¬ s.heap.size ≤ b)
    (C : xl_C D kx_cl (kx_ty ca) "ModuleHouseLaw" code 8 p s m #[Value.ref b] c) (htr : l.stackTraces = false) (hkh : xk_ok (kw_h ad ca) (kd_h ad)) (hkm : xk_ok (kw_m am ca) (kd_m am)) (hah : ∀ q ∈ kd_h ad, s.heap.size ≤ q) (ham : ∀ q ∈ kd_m am, s.heap.size ≤ q) (hdm : ∀ q ∈ kd_m am, q ∉ kd_h ad) (hdh : ∀ q ∈ kd_h ad, q ∉ kd_m am) {fu : Nat} {Rel : xk_St → xk_St → Prop} (hj : j ≤ 512)
    (hv0 : vp_in x4 L) (hv1 : vp_in (x4 + 1) L) (hv2 : vp_in (x4 + 2) L) (hv3 : vp_in (x4 + 3) L) (ea0 : a0 = xs x4.toNatClampNeg) (ea1 : a1 = xs (x4 + 1).toNatClampNeg) (ea2 : a2 = xs (x4 + 2).toNatClampNeg) (ea3 : a3 = xs (x4 + 3).toNatClampNeg)
    (hPh : va_P D kx_cl (kw_h ad ca uh) H) (hPm : va_P D kx_cl (kw_m am ca um) H) (hS : va_S (fun q => s.heap.size ≤ q) s.heap H locs) (hl : lv_has ls 8 [(4, .int x4), (3, .ref (ad 83)), (2, .ref (am 0)), (1, .ref (ad 0)), (0, .ref b)])
    (kend : ∀ (vh vm : xk_St), Rel vh vm → ∀ (H : Heap) (locs : List Loc) (ls : Array Slot), lv_has ls 8 [(4, .int x4), (3, .ref (ad 83)), (2, .ref (am 0)), (1, .ref (ad 0)), (0, .ref b)] → va_P D kx_cl (kw_h ad ca vh) H → va_P D kx_cl (kw_m am ca vm) H → va_S (fun q => s.heap.size ≤ q) s.heap H locs → W p l e room_1 s m #[Value.ref b] below meth c H locs (134 + j + 1) (388493 + 6 * j + 6) (lw_Z below #[Value.ref b] s) (F0 m 563 ls []))
    (hok : a0 &&& 7 = 5 → ∃ (k : Int32) (b : Int64) (vh vm : xk_St), fm_Law_global a1 uh = some (k, vh) ∧ fm_Model_global a1 um = some (b, vm) ∧ vm.1 0 = k ∧ (k = 0 → vh.2.2.2 13 0 = b) ∧ Rel vh vm) (hc : a0 &&& 7 = 5) : W p l e room_1 s m #[Value.ref b] below meth c H locs (134 + j) (388493 + 6 * j) (lw_Z below #[Value.ref b] s) (F0 m 396 ls []) := by
  obtain ⟨k, b0, vh, vm, hq1, hq2, ht, hout, hR2⟩ := hok hc
  refine lv_aload_n hx hb dd_law_396 rfl (lv_at hl 3 rfl) ?_
  refine lv_aload_n hx hb dd_law_397 rfl (lv_at hl 4 rfl) ?_
  refine lv_iload hx hb dd_law_398 (lv_at hl 0 rfl) ?_
  refine lv_iconst (v := 1) hx hb dd_law_400 (by decide) ?_
  refine lv_iadd hx hb dd_law_401 ?_
  refine va_sld hx hb hX hbl hbA hS hv1 dd_law_402 ?_
  refine xr_nami ea1 ?_
  refine lv_aload_n hx hb dd_law_403 rfl (lv_at hl 1 rfl) ?_
  refine xw_S (v := some (.int k)) (As := [.ref (ad 0), .int a1, .ref (ad 83)]) (rest := []) C hPh hS hah (ct_Law_global htr hkh hq1) kl_71 ⟨rfl, rfl, Nat.le_of_ble_eq_true rfl, Nat.le_of_ble_eq_true rfl⟩ ⟨by have h9 := xl_rc; omega, by have h9 := xl_rs; omega⟩ hl.1 rfl rfl (Nat.le_of_ble_eq_true rfl) dd_law_404 (fun H locs hPh hS hkp => ?_)
  replace hPm := xw_keep hPm hdm hkp
  refine W.eq (g2 := F0 m 407 ls [.int k]) rfl ?_
  refine lv_istore (lv' := [(5, .int k), (4, .int x4), (3, .ref (ad 83)), (2, .ref (am 0)), (1, .ref (ad 0)), (0, .ref b)]) hx hb dd_law_407 hl (by decide) rfl (fun ls hl => ?_)
  refine lv_aload_n hx hb dd_law_409 rfl (lv_at hl 3 rfl) ?_
  refine lv_aload_n hx hb dd_law_410 rfl (lv_at hl 5 rfl) ?_
  refine lv_iload hx hb dd_law_411 (lv_at hl 1 rfl) ?_
  refine lv_iconst (v := 1) hx hb dd_law_413 (by decide) ?_
  refine lv_iadd hx hb dd_law_414 ?_
  refine va_sld hx hb hX hbl hbA hS hv1 dd_law_415 ?_
  refine xr_nami ea1 ?_
  refine xw_V (v := some (.long b0)) (As := [.int a1]) (rest := []) C hPm hS ham (ct_Model_global htr hkm hq2) kl_73 0 11 rfl rfl ⟨rfl, rfl, Nat.le_of_ble_eq_true rfl, Nat.le_of_ble_eq_true rfl⟩ ⟨by have h9 := xl_rc; omega, by have h9 := xl_rs; omega⟩ hl.1 rfl rfl (Nat.le_of_ble_eq_true rfl) dd_law_416 (fun H locs hPm hS hkp => ?_)
  replace hPh := xw_keep hPh hdh hkp
  refine W.eq (g2 := F0 m 419 ls [.long b0]) rfl ?_
  refine lv_lstore (lv' := [(6, .long b0), (5, .int k), (4, .int x4), (3, .ref (ad 83)), (2, .ref (am 0)), (1, .ref (ad 0)), (0, .ref b)]) hx hb dd_law_419 hl (by decide) rfl (fun ls hl => ?_)
  refine lv_aload_n hx hb dd_law_421 rfl (lv_at hl 4 rfl) ?_
  refine xw_V (v := some (.int (vm.1 0))) (As := []) (rest := []) C hPm hS ham (ct_Model_thrown htr hkm (rfl : fm_Model_thrown vm = some (vm.1 0, vm))) kl_52 0 11 rfl rfl ⟨rfl, rfl, Nat.le_of_ble_eq_true rfl, Nat.le_of_ble_eq_true rfl⟩ ⟨by have h9 := xl_rc; omega, by have h9 := xl_rs; omega⟩ hl.1 rfl rfl (Nat.le_of_ble_eq_true rfl) dd_law_422 (fun H locs hPm hS hkp => ?_)
  replace hPh := xw_keep hPh hdh hkp
  refine W.eq (g2 := F0 m 425 ls [.int (vm.1 0)]) rfl ?_
  refine lv_iload hx hb dd_law_425 (lv_at hl 1 rfl) ?_
  refine lv_icmp_eq (tgt := 432) hx hb dd_law_427 (by decide) (fun hz => ?_) (fun hz => absurd ht hz)
  refine lv_iload hx hb dd_law_432 (lv_at hl 1 rfl) ?_
  refine lv_if_ne (tgt := 448) hx hb dd_law_434 (by decide) (fun hz => ?_) (fun hz => ?_)
  · refine lv_goto (tgt := 563) hx hb dd_law_448 (by decide) ?_
    exact kend vh vm hR2 _ _ _ (lv_sub hl [2, 3, 4, 5, 6] rfl) hPh hPm hS
  refine lv_aload_n hx hb dd_law_437 rfl (lv_at hl 3 rfl) ?_
  refine lv_iconst (v := 0) hx hb dd_law_438 (by decide) ?_
  refine va_lald hx hb C.2.1 hPh 83 2 rfl rfl (show ¬ ((0 : Int32) < 0 ∨ 1 ≤ (0 : Int32).toNatClampNeg) by decide) dd_law_439 ?_
  refine lv_lload hx hb dd_law_440 (lv_at hl 0 rfl) ?_
  refine xr_lc_eq (tgt := 448) hx hb dd_law_442 dd_law_443 (by decide) (fun hy => ?_) (fun hy => absurd (hout hz) hy)
  refine lv_goto (tgt := 563) hx hb dd_law_448 (by decide) ?_
  exact kend vh vm hR2 _ _ _ (lv_sub hl [2, 3, 4, 5, 6] rfl) hPh hPm hS
set_option maxHeartbeats 4000000 in
set_option maxRecDepth 100000 in
theorem xl_case6 {p : Program} {l : Launch} {e : Env} {s : State} {m : MethodId} {below : List Frame} {meth : Method} {c : Code} {b L : Nat} {xs : Nat → Int32} {D : va_G} {ca : Nat → ClassId} {ad am : Nat → Nat} {j : Nat} {uh um : xk_St} {H : Heap} {locs : List Loc} {ls : Array Slot} {a0 a1 a2 a3 x4 : Int32} (hx : p.tables.exec = Jvm.exec) (hb : c.code = code) (hX : va_X b L xs s s.heap) (hbl : b < s.heap.size) (hbA : ¬ s.heap.size ≤ b)
    (C : xl_C D kx_cl (kx_ty ca) "ModuleHouseLaw" code 8 p s m #[Value.ref b] c) (htr : l.stackTraces = false) (hkh : xk_ok (kw_h ad ca) (kd_h ad)) (hkm : xk_ok (kw_m am ca) (kd_m am)) (hah : ∀ q ∈ kd_h ad, s.heap.size ≤ q) (ham : ∀ q ∈ kd_m am, s.heap.size ≤ q) (hdm : ∀ q ∈ kd_m am, q ∉ kd_h ad) (hdh : ∀ q ∈ kd_h ad, q ∉ kd_m am) {fu : Nat} {Rel : xk_St → xk_St → Prop} (hj : j ≤ 512)
    (hv0 : vp_in x4 L) (hv1 : vp_in (x4 + 1) L) (hv2 : vp_in (x4 + 2) L) (hv3 : vp_in (x4 + 3) L) (ea0 : a0 = xs x4.toNatClampNeg) (ea1 : a1 = xs (x4 + 1).toNatClampNeg) (ea2 : a2 = xs (x4 + 2).toNatClampNeg) (ea3 : a3 = xs (x4 + 3).toNatClampNeg)
    (hPh : va_P D kx_cl (kw_h ad ca uh) H) (hPm : va_P D kx_cl (kw_m am ca um) H) (hS : va_S (fun q => s.heap.size ≤ q) s.heap H locs) (hl : lv_has ls 8 [(4, .int x4), (3, .ref (ad 83)), (2, .ref (am 0)), (1, .ref (ad 0)), (0, .ref b)])
    (kend : ∀ (vh vm : xk_St), Rel vh vm → ∀ (H : Heap) (locs : List Loc) (ls : Array Slot), lv_has ls 8 [(4, .int x4), (3, .ref (ad 83)), (2, .ref (am 0)), (1, .ref (ad 0)), (0, .ref b)] → va_P D kx_cl (kw_h ad ca vh) H → va_P D kx_cl (kw_m am ca vm) H → va_S (fun q => s.heap.size ≤ q) s.heap H locs → W p l e room_1 s m #[Value.ref b] below meth c H locs (134 + j + 1) (388493 + 6 * j + 6) (lw_Z below #[Value.ref b] s) (F0 m 563 ls []))
    (hok : a0 &&& 7 = 6 → ∃ (k : Int32) (b : Int32) (vh vm : xk_St), fm_Law_at fu a1 uh = some (k, vh) ∧ fm_Model_at a1 um = some (b, vm) ∧ vm.1 0 = k ∧ (k = 0 → vh.2.2.2 13 0 = b.toInt64) ∧ Rel vh vm) (hc : a0 &&& 7 = 6) : W p l e room_1 s m #[Value.ref b] below meth c H locs (134 + j) (388493 + 6 * j) (lw_Z below #[Value.ref b] s) (F0 m 451 ls []) := by
  obtain ⟨k, b0, vh, vm, hq1, hq2, ht, hout, hR2⟩ := hok hc
  refine lv_aload_n hx hb dd_law_451 rfl (lv_at hl 3 rfl) ?_
  refine lv_aload_n hx hb dd_law_452 rfl (lv_at hl 4 rfl) ?_
  refine lv_iload hx hb dd_law_453 (lv_at hl 0 rfl) ?_
  refine lv_iconst (v := 1) hx hb dd_law_455 (by decide) ?_
  refine lv_iadd hx hb dd_law_456 ?_
  refine va_sld hx hb hX hbl hbA hS hv1 dd_law_457 ?_
  refine xr_nami ea1 ?_
  refine lv_aload_n hx hb dd_law_458 rfl (lv_at hl 1 rfl) ?_
  refine xw_S (v := some (.int k)) (As := [.ref (ad 0), .int a1, .ref (ad 83)]) (rest := []) C hPh hS hah (ct_Law_at htr hkh hq1) kl_74 ⟨rfl, rfl, Nat.le_of_ble_eq_true rfl, Nat.le_of_ble_eq_true rfl⟩ ⟨by have h9 := xl_rc; omega, by have h9 := xl_rs; omega⟩ hl.1 rfl rfl (Nat.le_of_ble_eq_true rfl) dd_law_459 (fun H locs hPh hS hkp => ?_)
  replace hPm := xw_keep hPm hdm hkp
  refine W.eq (g2 := F0 m 462 ls [.int k]) rfl ?_
  refine lv_istore (lv' := [(5, .int k), (4, .int x4), (3, .ref (ad 83)), (2, .ref (am 0)), (1, .ref (ad 0)), (0, .ref b)]) hx hb dd_law_462 hl (by decide) rfl (fun ls hl => ?_)
  refine lv_aload_n hx hb dd_law_464 rfl (lv_at hl 3 rfl) ?_
  refine lv_aload_n hx hb dd_law_465 rfl (lv_at hl 5 rfl) ?_
  refine lv_iload hx hb dd_law_466 (lv_at hl 1 rfl) ?_
  refine lv_iconst (v := 1) hx hb dd_law_468 (by decide) ?_
  refine lv_iadd hx hb dd_law_469 ?_
  refine va_sld hx hb hX hbl hbA hS hv1 dd_law_470 ?_
  refine xr_nami ea1 ?_
  refine xw_V (v := some (.int b0)) (As := [.int a1]) (rest := []) C hPm hS ham (ct_Model_at htr hkm hq2) kl_76 0 11 rfl rfl ⟨rfl, rfl, Nat.le_of_ble_eq_true rfl, Nat.le_of_ble_eq_true rfl⟩ ⟨by have h9 := xl_rc; omega, by have h9 := xl_rs; omega⟩ hl.1 rfl rfl (Nat.le_of_ble_eq_true rfl) dd_law_471 (fun H locs hPm hS hkp => ?_)
  replace hPh := xw_keep hPh hdh hkp
  refine W.eq (g2 := F0 m 474 ls [.int b0]) rfl ?_
  refine lv_istore (lv' := [(6, .int b0), (5, .int k), (4, .int x4), (3, .ref (ad 83)), (2, .ref (am 0)), (1, .ref (ad 0)), (0, .ref b)]) hx hb dd_law_474 hl (by decide) rfl (fun ls hl => ?_)
  refine lv_aload_n hx hb dd_law_476 rfl (lv_at hl 4 rfl) ?_
  refine xw_V (v := some (.int (vm.1 0))) (As := []) (rest := []) C hPm hS ham (ct_Model_thrown htr hkm (rfl : fm_Model_thrown vm = some (vm.1 0, vm))) kl_52 0 11 rfl rfl ⟨rfl, rfl, Nat.le_of_ble_eq_true rfl, Nat.le_of_ble_eq_true rfl⟩ ⟨by have h9 := xl_rc; omega, by have h9 := xl_rs; omega⟩ hl.1 rfl rfl (Nat.le_of_ble_eq_true rfl) dd_law_477 (fun H locs hPm hS hkp => ?_)
  replace hPh := xw_keep hPh hdh hkp
  refine W.eq (g2 := F0 m 480 ls [.int (vm.1 0)]) rfl ?_
  refine lv_iload hx hb dd_law_480 (lv_at hl 1 rfl) ?_
  refine lv_icmp_eq (tgt := 487) hx hb dd_law_482 (by decide) (fun hz => ?_) (fun hz => absurd ht hz)
  refine lv_iload hx hb dd_law_487 (lv_at hl 1 rfl) ?_
  refine lv_if_ne (tgt := 504) hx hb dd_law_489 (by decide) (fun hz => ?_) (fun hz => ?_)
  · refine lv_goto (tgt := 563) hx hb dd_law_504 (by decide) ?_
    exact kend vh vm hR2 _ _ _ (lv_sub hl [2, 3, 4, 5, 6] rfl) hPh hPm hS
  refine lv_aload_n hx hb dd_law_492 rfl (lv_at hl 3 rfl) ?_
  refine lv_iconst (v := 0) hx hb dd_law_493 (by decide) ?_
  refine va_lald hx hb C.2.1 hPh 83 2 rfl rfl (show ¬ ((0 : Int32) < 0 ∨ 1 ≤ (0 : Int32).toNatClampNeg) by decide) dd_law_494 ?_
  refine lv_iload hx hb dd_law_495 (lv_at hl 0 rfl) ?_
  refine lv_i2l hx hb dd_law_497 rfl ?_
  refine xr_lc_eq (tgt := 504) hx hb dd_law_498 dd_law_499 (by decide) (fun hy => ?_) (fun hy => absurd (hout hz) hy)
  refine lv_goto (tgt := 563) hx hb dd_law_504 (by decide) ?_
  exact kend vh vm hR2 _ _ _ (lv_sub hl [2, 3, 4, 5, 6] rfl) hPh hPm hS
set_option maxHeartbeats 4000000 in
set_option maxRecDepth 100000 in
theorem xl_case7 {p : Program} {l : Launch} {e : Env} {s : State} {m : MethodId} {below : List Frame} {meth : Method} {c : Code} {b L : Nat} {xs : Nat → Int32} {D : va_G} {ca : Nat → ClassId} {ad am : Nat → Nat} {j : Nat} {uh um : xk_St} {H : Heap} {locs : List Loc} {ls : Array Slot} {a0 a1 a2 a3 x4 : Int32} (hx : p.tables.exec = Jvm.exec) (hb : c.code = code) (hX : va_X b L xs s s.heap) (hbl : b < s.heap.size) (hbA : ¬ s.heap.size ≤ b)
    (C : xl_C D kx_cl (kx_ty ca) "ModuleHouseLaw" code 8 p s m #[Value.ref b] c) (htr : l.stackTraces = false) (hkh : xk_ok (kw_h ad ca) (kd_h ad)) (hkm : xk_ok (kw_m am ca) (kd_m am)) (hah : ∀ q ∈ kd_h ad, s.heap.size ≤ q) (ham : ∀ q ∈ kd_m am, s.heap.size ≤ q) (hdm : ∀ q ∈ kd_m am, q ∉ kd_h ad) (hdh : ∀ q ∈ kd_h ad, q ∉ kd_m am) {fu : Nat} {Rel : xk_St → xk_St → Prop} (hj : j ≤ 512)
    (hv0 : vp_in x4 L) (hv1 : vp_in (x4 + 1) L) (hv2 : vp_in (x4 + 2) L) (hv3 : vp_in (x4 + 3) L) (ea0 : a0 = xs x4.toNatClampNeg) (ea1 : a1 = xs (x4 + 1).toNatClampNeg) (ea2 : a2 = xs (x4 + 2).toNatClampNeg) (ea3 : a3 = xs (x4 + 3).toNatClampNeg)
    (hPh : va_P D kx_cl (kw_h ad ca uh) H) (hPm : va_P D kx_cl (kw_m am ca um) H) (hS : va_S (fun q => s.heap.size ≤ q) s.heap H locs) (hl : lv_has ls 8 [(4, .int x4), (3, .ref (ad 83)), (2, .ref (am 0)), (1, .ref (ad 0)), (0, .ref b)])
    (kend : ∀ (vh vm : xk_St), Rel vh vm → ∀ (H : Heap) (locs : List Loc) (ls : Array Slot), lv_has ls 8 [(4, .int x4), (3, .ref (ad 83)), (2, .ref (am 0)), (1, .ref (ad 0)), (0, .ref b)] → va_P D kx_cl (kw_h ad ca vh) H → va_P D kx_cl (kw_m am ca vm) H → va_S (fun q => s.heap.size ≤ q) s.heap H locs → W p l e room_1 s m #[Value.ref b] below meth c H locs (134 + j + 1) (388493 + 6 * j + 6) (lw_Z below #[Value.ref b] s) (F0 m 563 ls []))
    (hok : a0 &&& 7 = 7 → ∃ (k : Int32) (b : Int32) (vh vm : xk_St), fm_Law_look fu a1 uh = some (k, vh) ∧ fm_Model_look fu a1 um = some (b, vm) ∧ vm.1 0 = k ∧ (k = 0 → vh.2.2.2 13 0 = b.toInt64) ∧ Rel vh vm) (hc : a0 &&& 7 = 7) : W p l e room_1 s m #[Value.ref b] below meth c H locs (134 + j) (388493 + 6 * j) (lw_Z below #[Value.ref b] s) (F0 m 507 ls []) := by
  obtain ⟨k, b0, vh, vm, hq1, hq2, ht, hout, hR2⟩ := hok hc
  refine lv_aload_n hx hb dd_law_507 rfl (lv_at hl 3 rfl) ?_
  refine lv_aload_n hx hb dd_law_508 rfl (lv_at hl 4 rfl) ?_
  refine lv_iload hx hb dd_law_509 (lv_at hl 0 rfl) ?_
  refine lv_iconst (v := 1) hx hb dd_law_511 (by decide) ?_
  refine lv_iadd hx hb dd_law_512 ?_
  refine va_sld hx hb hX hbl hbA hS hv1 dd_law_513 ?_
  refine xr_nami ea1 ?_
  refine lv_aload_n hx hb dd_law_514 rfl (lv_at hl 1 rfl) ?_
  refine xw_S (v := some (.int k)) (As := [.ref (ad 0), .int a1, .ref (ad 83)]) (rest := []) C hPh hS hah (ct_Law_look htr hkh hq1) kl_77 ⟨rfl, rfl, Nat.le_of_ble_eq_true rfl, Nat.le_of_ble_eq_true rfl⟩ ⟨by have h9 := xl_rc; omega, by have h9 := xl_rs; omega⟩ hl.1 rfl rfl (Nat.le_of_ble_eq_true rfl) dd_law_515 (fun H locs hPh hS hkp => ?_)
  replace hPm := xw_keep hPm hdm hkp
  refine W.eq (g2 := F0 m 518 ls [.int k]) rfl ?_
  refine lv_istore (lv' := [(5, .int k), (4, .int x4), (3, .ref (ad 83)), (2, .ref (am 0)), (1, .ref (ad 0)), (0, .ref b)]) hx hb dd_law_518 hl (by decide) rfl (fun ls hl => ?_)
  refine lv_aload_n hx hb dd_law_520 rfl (lv_at hl 3 rfl) ?_
  refine lv_aload_n hx hb dd_law_521 rfl (lv_at hl 5 rfl) ?_
  refine lv_iload hx hb dd_law_522 (lv_at hl 1 rfl) ?_
  refine lv_iconst (v := 1) hx hb dd_law_524 (by decide) ?_
  refine lv_iadd hx hb dd_law_525 ?_
  refine va_sld hx hb hX hbl hbA hS hv1 dd_law_526 ?_
  refine xr_nami ea1 ?_
  refine xw_V (v := some (.int b0)) (As := [.int a1]) (rest := []) C hPm hS ham (ct_Model_look htr hkm hq2) kl_79 0 11 rfl rfl ⟨rfl, rfl, Nat.le_of_ble_eq_true rfl, Nat.le_of_ble_eq_true rfl⟩ ⟨by have h9 := xl_rc; omega, by have h9 := xl_rs; omega⟩ hl.1 rfl rfl (Nat.le_of_ble_eq_true rfl) dd_law_527 (fun H locs hPm hS hkp => ?_)
  replace hPh := xw_keep hPh hdh hkp
  refine W.eq (g2 := F0 m 530 ls [.int b0]) rfl ?_
  refine lv_istore (lv' := [(6, .int b0), (5, .int k), (4, .int x4), (3, .ref (ad 83)), (2, .ref (am 0)), (1, .ref (ad 0)), (0, .ref b)]) hx hb dd_law_530 hl (by decide) rfl (fun ls hl => ?_)
  refine lv_aload_n hx hb dd_law_532 rfl (lv_at hl 4 rfl) ?_
  refine xw_V (v := some (.int (vm.1 0))) (As := []) (rest := []) C hPm hS ham (ct_Model_thrown htr hkm (rfl : fm_Model_thrown vm = some (vm.1 0, vm))) kl_52 0 11 rfl rfl ⟨rfl, rfl, Nat.le_of_ble_eq_true rfl, Nat.le_of_ble_eq_true rfl⟩ ⟨by have h9 := xl_rc; omega, by have h9 := xl_rs; omega⟩ hl.1 rfl rfl (Nat.le_of_ble_eq_true rfl) dd_law_533 (fun H locs hPm hS hkp => ?_)
  replace hPh := xw_keep hPh hdh hkp
  refine W.eq (g2 := F0 m 536 ls [.int (vm.1 0)]) rfl ?_
  refine lv_iload hx hb dd_law_536 (lv_at hl 1 rfl) ?_
  refine lv_icmp_eq (tgt := 543) hx hb dd_law_538 (by decide) (fun hz => ?_) (fun hz => absurd ht hz)
  refine lv_iload hx hb dd_law_543 (lv_at hl 1 rfl) ?_
  refine lv_if_ne (tgt := 560) hx hb dd_law_545 (by decide) (fun hz => ?_) (fun hz => ?_)
  · refine lv_goto (tgt := 563) hx hb dd_law_560 (by decide) ?_
    exact kend vh vm hR2 _ _ _ (lv_sub hl [2, 3, 4, 5, 6] rfl) hPh hPm hS
  refine lv_aload_n hx hb dd_law_548 rfl (lv_at hl 3 rfl) ?_
  refine lv_iconst (v := 0) hx hb dd_law_549 (by decide) ?_
  refine va_lald hx hb C.2.1 hPh 83 2 rfl rfl (show ¬ ((0 : Int32) < 0 ∨ 1 ≤ (0 : Int32).toNatClampNeg) by decide) dd_law_550 ?_
  refine lv_iload hx hb dd_law_551 (lv_at hl 0 rfl) ?_
  refine lv_i2l hx hb dd_law_553 rfl ?_
  refine xr_lc_eq (tgt := 560) hx hb dd_law_554 dd_law_555 (by decide) (fun hy => ?_) (fun hy => absurd (hout hz) hy)
  refine lv_goto (tgt := 563) hx hb dd_law_560 (by decide) ?_
  exact kend vh vm hR2 _ _ _ (lv_sub hl [2, 3, 4, 5, 6] rfl) hPh hPm hS
