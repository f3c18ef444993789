set_option maxHeartbeats 8000000 in
set_option maxRecDepth 100000 in
theorem cc_Types {l : Launch} (D : va_G) (ca : Nat → ClassId) (h0 : Nat) (sz : Nat) : Met l ⟨"ModuleHouse$Types", "<init>", "()V"⟩ (Cond.code ⟨"ModuleHouse$Types", "<init>", "()V"⟩ prog_11_method_1_code 1 none :: xk_gd) { frames := 1, cells := 5, slots := 2470, locals := 14 } (va_Pc [.ref h0] (fun U => U.heap.size = sz ∧ va_P D kx_cl [(h0, .inr (9, [.int 0, .null, .null, .null, .null, .null]))] U.heap ∧ va_K D kx_cl (kx_ty ca) U ∧ va_D (fun _ => True) [(h0, .inr (9, [.int 0, .null, .null, .null, .null, .null]))] ∧ xk_Nw U)) (va_Qv (fun _ : Unit => True) (fun _ t => ∃ q1 q2 q3 q4 q5 : Nat, va_P D kx_cl [(h0, .inr (9, [.int 0, .ref q1, .ref q2, .ref q3, .ref q4, .ref q5])), (q1, .inl (ca 1, 65, .inl (fun _ => 0))), (q2, .inl (ca 1, 65, .inl (fun _ => 0))), (q3, .inl (ca 1, 65, .inl (fun _ => 0))), (q4, .inl (ca 1, 65, .inl (fun _ => 0))), (q5, .inl (ca 1, 2210, .inl (fun _ => 0)))] t.heap ∧ va_D (va_A [(h0, .inr (9, [.int 0, .null, .null, .null, .null, .null]))] sz) [(h0, .inr (9, [.int 0, .ref q1, .ref q2, .ref q3, .ref q4, .ref q5])), (q1, .inl (ca 1, 65, .inl (fun _ => 0))), (q2, .inl (ca 1, 65, .inl (fun _ => 0))), (q3, .inl (ca 1, 65, .inl (fun _ => 0))), (q4, .inl (ca 1, 65, .inl (fun _ => 0))), (q5, .inl (ca 1, 2210, .inl (fun _ => 0)))]) (va_A [(h0, .inr (9, [.int 0, .null, .null, .null, .null, .null]))] sz)) 5 2470 (va_A [(h0, .inr (9, [.int 0, .null, .null, .null, .null, .null]))] sz) := by
  refine Met.ofW (cc := prog_11_method_1_code) (maxL := 1) (ret := none) (by decide) rfl ?_
  intro p e s m args below meth c s₁ B hml hv
  obtain ⟨rfl, hsz, hP, hK, hD0, hN⟩ := hv
  have hx := B.exec
  have hb := B.bytes
  have hr := B.returns
  have hts : ∀ w ∈ xk_gd, w.before [.ref h0].toArray s = true := fun w hw => atoms_spec (ws := Cond.code ⟨"ModuleHouse$Types", "<init>", "()V"⟩ prog_11_method_1_code 1 none :: xk_gd) B.pre w (List.mem_cons_of_mem _ hw)
  have hown : s.vm.findClass "ModuleHouse$Types" = some m.cls := findClass_of_methodNamed B.named
  have hlocks := B.notSynchronized
  have hin : meth.name = "<init>" := (name_of_methodNamed B.named B.method).1
  subst hsz
  have hD := hD0.self (sz := s.heap.size)
  generalize hAe : va_A [(h0, .inr (9, [.int 0, .null, .null, .null, .null, .null]))] s.heap.size = A at hD ⊢
  have hA : ∀ q : Nat, s.heap.size ≤ q → A q := fun q h => by rw [← hAe]; exact Or.inr h
  have hS : va_S A s.heap s.heap [] := va_S.rf
  have hl := lv_entry [.ref h0] (n := 1) (Nat.le_of_ble_eq_true rfl)
  rw [lg_entry_eq]
  generalize (lg_sl [.ref h0] ++ List.replicate (1 - (lg_sl [.ref h0]).length) Slot.unset).toArray = ls at hl ⊢
  have hl : lv_has ls 1 [(0, .ref h0)] := hl
  refine lv_aload_n hx hb dd_Types_init_0 rfl (lv_at hl 0 rfl) ?_
  refine W.objInit hx hb hown (hts _ (xk_c1 (w := Cond.methodLink "ModuleHouse$Types" 3 Lib.objectInit) 52 rfl rfl)) (hts _ (xk_c1 (w := Cond.instanceMethod Lib.objectInit) 39 rfl rfl)) (hts _ (xk_c1 (w := Cond.code Lib.objectInit ⟨#[0xb1]⟩ 1 none) 40 rfl rfl)) rfl (by rw [hml]; exact hl.1) rfl dd_Types_init_1 (Nat.le_of_ble_eq_true rfl) (Nat.le_of_ble_eq_true rfl) ?_
  refine W.eq (g2 := F0 m 4 ls []) rfl ?_
  refine lv_aload_n hx hb dd_Types_init_4 rfl (lv_at hl 0 rfl) ?_
  refine lv_bipush (v := 65) hx hb dd_Types_init_5 (by decide) ?_
  refine xk_newa (atype := .int) (ty := .int) (cA := ca 1) (a0 := (65, .inl (fun _ => 0))) (N' := 65) hx hb (hts _ (xk_c1 (w := Cond.arrayClass .int) 88 rfl rfl)) rfl hK 1 rfl (by intro C h; cases h) hP hD hS hA (fun cA => vp_cell_i cA _ _) (by decide) (by decide) (by decide) (Nat.le_of_ble_eq_true rfl) (Nat.le_of_ble_eq_true rfl) dd_Types_init_7 (fun q1 H hP hD hS => ?_)
  have hP : va_P D kx_cl [(h0, .inr (9, [.int 0, .null, .null, .null, .null, .null])), (q1, .inl (ca 1, 65, .inl (fun _ => 0)))] H := hP
  have hD : va_D A [(h0, .inr (9, [.int 0, .null, .null, .null, .null, .null])), (q1, .inl (ca 1, 65, .inl (fun _ => 0)))] := hD
  refine W.widen (k := 1) (n := 65) (by omega) (by omega) ?_
  refine va_putF (D := D) (ci := 9) (v := .ref q1) (ty := .array .int) (C := kc_Types) (T := kf_Types) (N := 6) hx hb hts ki_Types kt_Types ko_Types kn_Types hown hK hP hD hS 0 rfl rfl 1 (by decide) (hts _ (xk_c1 (w := Cond.fieldLink "ModuleHouse$Types" 9 "ModuleHouse$Types" "kind" "[I") 58 rfl rfl)) (fun _ h => h) rfl hin rfl (by decide +kernel) rfl rfl (Nat.le_of_ble_eq_true rfl) dd_Types_init_9 (fun H locs hP hD hS => ?_)
  have hP : va_P D kx_cl [(h0, .inr (9, [.int 0, .ref q1, .null, .null, .null, .null])), (q1, .inl (ca 1, 65, .inl (fun _ => 0)))] H := hP
  have hD : va_D A [(h0, .inr (9, [.int 0, .ref q1, .null, .null, .null, .null])), (q1, .inl (ca 1, 65, .inl (fun _ => 0)))] := hD
  refine lv_aload_n hx hb dd_Types_init_12 rfl (lv_at hl 0 rfl) ?_
  refine lv_bipush (v := 65) hx hb dd_Types_init_13 (by decide) ?_
  refine xk_newa (atype := .int) (ty := .int) (cA := ca 1) (a0 := (65, .inl (fun _ => 0))) (N' := 65) hx hb (hts _ (xk_c1 (w := Cond.arrayClass .int) 88 rfl rfl)) rfl hK 1 rfl (by intro C h; cases h) hP hD hS hA (fun cA => vp_cell_i cA _ _) (by decide) (by decide) (by decide) (Nat.le_of_ble_eq_true rfl) (Nat.le_of_ble_eq_true rfl) dd_Types_init_15 (fun q2 H hP hD hS => ?_)
  have hP : va_P D kx_cl [(h0, .inr (9, [.int 0, .ref q1, .null, .null, .null, .null])), (q1, .inl (ca 1, 65, .inl (fun _ => 0))), (q2, .inl (ca 1, 65, .inl (fun _ => 0)))] H := hP
  have hD : va_D A [(h0, .inr (9, [.int 0, .ref q1, .null, .null, .null, .null])), (q1, .inl (ca 1, 65, .inl (fun _ => 0))), (q2, .inl (ca 1, 65, .inl (fun _ => 0)))] := hD
  refine W.widen (k := 2) (n := 130) (by omega) (by omega) ?_
  refine va_putF (D := D) (ci := 9) (v := .ref q2) (ty := .array .int) (C := kc_Types) (T := kf_Types) (N := 6) hx hb hts ki_Types kt_Types ko_Types kn_Types hown hK hP hD hS 0 rfl rfl 2 (by decide) (hts _ (xk_c1 (w := Cond.fieldLink "ModuleHouse$Types" 15 "ModuleHouse$Types" "members" "[I") 60 rfl rfl)) (fun _ h => h) rfl hin rfl (by decide +kernel) rfl rfl (Nat.le_of_ble_eq_true rfl) dd_Types_init_17 (fun H locs hP hD hS => ?_)
  have hP : va_P D kx_cl [(h0, .inr (9, [.int 0, .ref q1, .ref q2, .null, .null, .null])), (q1, .inl (ca 1, 65, .inl (fun _ => 0))), (q2, .inl (ca 1, 65, .inl (fun _ => 0)))] H := hP
  have hD : va_D A [(h0, .inr (9, [.int 0, .ref q1, .ref q2, .null, .null, .null])), (q1, .inl (ca 1, 65, .inl (fun _ => 0))), (q2, .inl (ca 1, 65, .inl (fun _ => 0)))] := hD
  refine lv_aload_n hx hb dd_Types_init_20 rfl (lv_at hl 0 rfl) ?_
  refine lv_bipush (v := 65) hx hb dd_Types_init_21 (by decide) ?_
  refine xk_newa (atype := .int) (ty := .int) (cA := ca 1) (a0 := (65, .inl (fun _ => 0))) (N' := 65) hx hb (hts _ (xk_c1 (w := Cond.arrayClass .int) 88 rfl rfl)) rfl hK 1 rfl (by intro C h; cases h) hP hD hS hA (fun cA => vp_cell_i cA _ _) (by decide) (by decide) (by decide) (Nat.le_of_ble_eq_true rfl) (Nat.le_of_ble_eq_true rfl) dd_Types_init_23 (fun q3 H hP hD hS => ?_)
  have hP : va_P D kx_cl [(h0, .inr (9, [.int 0, .ref q1, .ref q2, .null, .null, .null])), (q1, .inl (ca 1, 65, .inl (fun _ => 0))), (q2, .inl (ca 1, 65, .inl (fun _ => 0))), (q3, .inl (ca 1, 65, .inl (fun _ => 0)))] H := hP
  have hD : va_D A [(h0, .inr (9, [.int 0, .ref q1, .ref q2, .null, .null, .null])), (q1, .inl (ca 1, 65, .inl (fun _ => 0))), (q2, .inl (ca 1, 65, .inl (fun _ => 0))), (q3, .inl (ca 1, 65, .inl (fun _ => 0)))] := hD
  refine W.widen (k := 3) (n := 195) (by omega) (by omega) ?_
  refine va_putF (D := D) (ci := 9) (v := .ref q3) (ty := .array .int) (C := kc_Types) (T := kf_Types) (N := 6) hx hb hts ki_Types kt_Types ko_Types kn_Types hown hK hP hD hS 0 rfl rfl 3 (by decide) (hts _ (xk_c1 (w := Cond.fieldLink "ModuleHouse$Types" 18 "ModuleHouse$Types" "results" "[I") 65 rfl rfl)) (fun _ h => h) rfl hin rfl (by decide +kernel) rfl rfl (Nat.le_of_ble_eq_true rfl) dd_Types_init_25 (fun H locs hP hD hS => ?_)
  have hP : va_P D kx_cl [(h0, .inr (9, [.int 0, .ref q1, .ref q2, .ref q3, .null, .null])), (q1, .inl (ca 1, 65, .inl (fun _ => 0))), (q2, .inl (ca 1, 65, .inl (fun _ => 0))), (q3, .inl (ca 1, 65, .inl (fun _ => 0)))] H := hP
  have hD : va_D A [(h0, .inr (9, [.int 0, .ref q1, .ref q2, .ref q3, .null, .null])), (q1, .inl (ca 1, 65, .inl (fun _ => 0))), (q2, .inl (ca 1, 65, .inl (fun _ => 0))), (q3, .inl (ca 1, 65, .inl (fun _ => 0)))] := hD
  refine lv_aload_n hx hb dd_Types_init_28 rfl (lv_at hl 0 rfl) ?_
  refine lv_bipush (v := 65) hx hb dd_Types_init_29 (by decide) ?_
  refine xk_newa (atype := .int) (ty := .int) (cA := ca 1) (a0 := (65, .inl (fun _ => 0))) (N' := 65) hx hb (hts _ (xk_c1 (w := Cond.arrayClass .int) 88 rfl rfl)) rfl hK 1 rfl (by intro C h; cases h) hP hD hS hA (fun cA => vp_cell_i cA _ _) (by decide) (by decide) (by decide) (Nat.le_of_ble_eq_true rfl) (Nat.le_of_ble_eq_true rfl) dd_Types_init_31 (fun q4 H hP hD hS => ?_)
  have hP : va_P D kx_cl [(h0, .inr (9, [.int 0, .ref q1, .ref q2, .ref q3, .null, .null])), (q1, .inl (ca 1, 65, .inl (fun _ => 0))), (q2, .inl (ca 1, 65, .inl (fun _ => 0))), (q3, .inl (ca 1, 65, .inl (fun _ => 0))), (q4, .inl (ca 1, 65, .inl (fun _ => 0)))] H := hP
  have hD : va_D A [(h0, .inr (9, [.int 0, .ref q1, .ref q2, .ref q3, .null, .null])), (q1, .inl (ca 1, 65, .inl (fun _ => 0))), (q2, .inl (ca 1, 65, .inl (fun _ => 0))), (q3, .inl (ca 1, 65, .inl (fun _ => 0))), (q4, .inl (ca 1, 65, .inl (fun _ => 0)))] := hD
  refine W.widen (k := 4) (n := 260) (by omega) (by omega) ?_
  refine va_putF (D := D) (ci := 9) (v := .ref q4) (ty := .array .int) (C := kc_Types) (T := kf_Types) (N := 6) hx hb hts ki_Types kt_Types ko_Types kn_Types hown hK hP hD hS 0 rfl rfl 4 (by decide) (hts _ (xk_c1 (w := Cond.fieldLink "ModuleHouse$Types" 21 "ModuleHouse$Types" "like" "[I") 70 rfl rfl)) (fun _ h => h) rfl hin rfl (by decide +kernel) rfl rfl (Nat.le_of_ble_eq_true rfl) dd_Types_init_33 (fun H locs hP hD hS => ?_)
  have hP : va_P D kx_cl [(h0, .inr (9, [.int 0, .ref q1, .ref q2, .ref q3, .ref q4, .null])), (q1, .inl (ca 1, 65, .inl (fun _ => 0))), (q2, .inl (ca 1, 65, .inl (fun _ => 0))), (q3, .inl (ca 1, 65, .inl (fun _ => 0))), (q4, .inl (ca 1, 65, .inl (fun _ => 0)))] H := hP
  have hD : va_D A [(h0, .inr (9, [.int 0, .ref q1, .ref q2, .ref q3, .ref q4, .null])), (q1, .inl (ca 1, 65, .inl (fun _ => 0))), (q2, .inl (ca 1, 65, .inl (fun _ => 0))), (q3, .inl (ca 1, 65, .inl (fun _ => 0))), (q4, .inl (ca 1, 65, .inl (fun _ => 0)))] := hD
  refine lv_aload_n hx hb dd_Types_init_36 rfl (lv_at hl 0 rfl) ?_
  refine lv_sipush (v := 2210) hx hb dd_Types_init_37 (by decide) ?_
  refine xk_newa (atype := .int) (ty := .int) (cA := ca 1) (a0 := (2210, .inl (fun _ => 0))) (N' := 2210) hx hb (hts _ (xk_c1 (w := Cond.arrayClass .int) 88 rfl rfl)) rfl hK 1 rfl (by intro C h; cases h) hP hD hS hA (fun cA => vp_cell_i cA _ _) (by decide) (by decide) (by decide) (Nat.le_of_ble_eq_true rfl) (Nat.le_of_ble_eq_true rfl) dd_Types_init_40 (fun q5 H hP hD hS => ?_)
  have hP : va_P D kx_cl [(h0, .inr (9, [.int 0, .ref q1, .ref q2, .ref q3, .ref q4, .null])), (q1, .inl (ca 1, 65, .inl (fun _ => 0))), (q2, .inl (ca 1, 65, .inl (fun _ => 0))), (q3, .inl (ca 1, 65, .inl (fun _ => 0))), (q4, .inl (ca 1, 65, .inl (fun _ => 0))), (q5, .inl (ca 1, 2210, .inl (fun _ => 0)))] H := hP
  have hD : va_D A [(h0, .inr (9, [.int 0, .ref q1, .ref q2, .ref q3, .ref q4, .null])), (q1, .inl (ca 1, 65, .inl (fun _ => 0))), (q2, .inl (ca 1, 65, .inl (fun _ => 0))), (q3, .inl (ca 1, 65, .inl (fun _ => 0))), (q4, .inl (ca 1, 65, .inl (fun _ => 0))), (q5, .inl (ca 1, 2210, .inl (fun _ => 0)))] := hD
  refine W.widen (k := 5) (n := 2470) (by omega) (by omega) ?_
  refine va_putF (D := D) (ci := 9) (v := .ref q5) (ty := .array .int) (C := kc_Types) (T := kf_Types) (N := 6) hx hb hts ki_Types kt_Types ko_Types kn_Types hown hK hP hD hS 0 rfl rfl 5 (by decide) (hts _ (xk_c1 (w := Cond.fieldLink "ModuleHouse$Types" 24 "ModuleHouse$Types" "part" "[I") 72 rfl rfl)) (fun _ h => h) rfl hin rfl (by decide +kernel) rfl rfl (Nat.le_of_ble_eq_true rfl) dd_Types_init_42 (fun H locs hP hD hS => ?_)
  have hP : va_P D kx_cl [(h0, .inr (9, [.int 0, .ref q1, .ref q2, .ref q3, .ref q4, .ref q5])), (q1, .inl (ca 1, 65, .inl (fun _ => 0))), (q2, .inl (ca 1, 65, .inl (fun _ => 0))), (q3, .inl (ca 1, 65, .inl (fun _ => 0))), (q4, .inl (ca 1, 65, .inl (fun _ => 0))), (q5, .inl (ca 1, 2210, .inl (fun _ => 0)))] H := hP
  have hD : va_D A [(h0, .inr (9, [.int 0, .ref q1, .ref q2, .ref q3, .ref q4, .ref q5])), (q1, .inl (ca 1, 65, .inl (fun _ => 0))), (q2, .inl (ca 1, 65, .inl (fun _ => 0))), (q3, .inl (ca 1, 65, .inl (fun _ => 0))), (q4, .inl (ca 1, 65, .inl (fun _ => 0))), (q5, .inl (ca 1, 2210, .inl (fun _ => 0)))] := hD
  have hP9 := hP.sub (ws' := [(h0, .inr (9, [.int 0, .ref q1, .ref q2, .ref q3, .ref q4, .ref q5])), (q1, .inl (ca 1, 65, .inl (fun _ => 0))), (q2, .inl (ca 1, 65, .inl (fun _ => 0))), (q3, .inl (ca 1, 65, .inl (fun _ => 0))), (q4, .inl (ca 1, 65, .inl (fun _ => 0))), (q5, .inl (ca 1, 2210, .inl (fun _ => 0)))]) [0, 1, 2, 3, 4, 5] rfl
  have hD9 := hD.sub (ws' := [(h0, .inr (9, [.int 0, .ref q1, .ref q2, .ref q3, .ref q4, .ref q5])), (q1, .inl (ca 1, 65, .inl (fun _ => 0))), (q2, .inl (ca 1, 65, .inl (fun _ => 0))), (q3, .inl (ca 1, 65, .inl (fun _ => 0))), (q4, .inl (ca 1, 65, .inl (fun _ => 0))), (q5, .inl (ca 1, 2210, .inl (fun _ => 0)))]) [0, 1, 2, 3, 4, 5] (by decide) rfl
  exact W.vret hx hb hr (fun t ht hW => ⟨⟨(), rfl, trivial, q1, q2, q3, q4, q5, by rw [ht]; exact hP9, hD9⟩, hS.F ht⟩) hS.2.2 dd_Types_init_45 hlocks
set_option maxHeartbeats 8000000 in
set_option maxRecDepth 100000 in
theorem cc_Code {l : Launch} (D : va_G) (ca : Nat → ClassId) (h0 : Nat) (sz : Nat) : Met l ⟨"ModuleHouse$Code", "<init>", "()V"⟩ (Cond.code ⟨"ModuleHouse$Code", "<init>", "()V"⟩ prog_3_method_1_code 1 none :: xk_gd) { frames := 1, cells := 6, slots := 49152, locals := 14 } (va_Pc [.ref h0] (fun U => U.heap.size = sz ∧ va_P D kx_cl [(h0, .inr (2, [.int 0, .int 0, .null, .null, .null, .null, .null, .null]))] U.heap ∧ va_K D kx_cl (kx_ty ca) U ∧ va_D (fun _ => True) [(h0, .inr (2, [.int 0, .int 0, .null, .null, .null, .null, .null, .null]))] ∧ xk_Nw U)) (va_Qv (fun _ : Unit => True) (fun _ t => ∃ q1 q2 q3 q4 q5 q6 : Nat, va_P D kx_cl [(h0, .inr (2, [.int 0, .int 0, .ref q1, .ref q2, .ref q3, .ref q4, .ref q5, .ref q6])), (q1, .inl (ca 4, 8192, .inl (fun _ => 0))), (q2, .inl (ca 1, 8192, .inl (fun _ => 0))), (q3, .inl (ca 2, 8192, .inr (.inl (fun _ => 0)))), (q4, .inl (ca 1, 8192, .inl (fun _ => 0))), (q5, .inl (ca 1, 8192, .inl (fun _ => 0))), (q6, .inl (ca 1, 8192, .inl (fun _ => 0)))] t.heap ∧ va_D (va_A [(h0, .inr (2, [.int 0, .int 0, .null, .null, .null, .null, .null, .null]))] sz) [(h0, .inr (2, [.int 0, .int 0, .ref q1, .ref q2, .ref q3, .ref q4, .ref q5, .ref q6])), (q1, .inl (ca 4, 8192, .inl (fun _ => 0))), (q2, .inl (ca 1, 8192, .inl (fun _ => 0))), (q3, .inl (ca 2, 8192, .inr (.inl (fun _ => 0)))), (q4, .inl (ca 1, 8192, .inl (fun _ => 0))), (q5, .inl (ca 1, 8192, .inl (fun _ => 0))), (q6, .inl (ca 1, 8192, .inl (fun _ => 0)))]) (va_A [(h0, .inr (2, [.int 0, .int 0, .null, .null, .null, .null, .null, .null]))] sz)) 6 49152 (va_A [(h0, .inr (2, [.int 0, .int 0, .null, .null, .null, .null, .null, .null]))] sz) := by
  refine Met.ofW (cc := prog_3_method_1_code) (maxL := 1) (ret := none) (by decide) rfl ?_
  intro p e s m args below meth c s₁ B hml hv
  obtain ⟨rfl, hsz, hP, hK, hD0, hN⟩ := hv
  have hx := B.exec
  have hb := B.bytes
  have hr := B.returns
  have hts : ∀ w ∈ xk_gd, w.before [.ref h0].toArray s = true := fun w hw => atoms_spec (ws := Cond.code ⟨"ModuleHouse$Code", "<init>", "()V"⟩ prog_3_method_1_code 1 none :: xk_gd) B.pre w (List.mem_cons_of_mem _ hw)
  have hown : s.vm.findClass "ModuleHouse$Code" = some m.cls := findClass_of_methodNamed B.named
  have hlocks := B.notSynchronized
  have hin : meth.name = "<init>" := (name_of_methodNamed B.named B.method).1
  subst hsz
  have hD := hD0.self (sz := s.heap.size)
  generalize hAe : va_A [(h0, .inr (2, [.int 0, .int 0, .null, .null, .null, .null, .null, .null]))] s.heap.size = A at hD ⊢
  have hA : ∀ q : Nat, s.heap.size ≤ q → A q := fun q h => by rw [← hAe]; exact Or.inr h
  have hS : va_S A s.heap s.heap [] := va_S.rf
  have hl := lv_entry [.ref h0] (n := 1) (Nat.le_of_ble_eq_true rfl)
  rw [lg_entry_eq]
  generalize (lg_sl [.ref h0] ++ List.replicate (1 - (lg_sl [.ref h0]).length) Slot.unset).toArray = ls at hl ⊢
  have hl : lv_has ls 1 [(0, .ref h0)] := hl
  refine lv_aload_n hx hb dd_Code_init_0 rfl (lv_at hl 0 rfl) ?_
  refine W.objInit hx hb hown (hts _ (xk_c1 (w := Cond.methodLink "ModuleHouse$Code" 3 Lib.objectInit) 94 rfl rfl)) (hts _ (xk_c1 (w := Cond.instanceMethod Lib.objectInit) 39 rfl rfl)) (hts _ (xk_c1 (w := Cond.code Lib.objectInit ⟨#[0xb1]⟩ 1 none) 40 rfl rfl)) rfl (by rw [hml]; exact hl.1) rfl dd_Code_init_1 (Nat.le_of_ble_eq_true rfl) (Nat.le_of_ble_eq_true rfl) ?_
  refine W.eq (g2 := F0 m 4 ls []) rfl ?_
  refine lv_aload_n hx hb dd_Code_init_4 rfl (lv_at hl 0 rfl) ?_
  refine lv_sipush (v := 8192) hx hb dd_Code_init_5 (by decide) ?_
  refine xk_newa (atype := .short) (ty := .short) (cA := ca 4) (a0 := (8192, .inl (fun _ => 0))) (N' := 8192) hx hb (hts _ (xk_c1 (w := Cond.arrayClass .short) 138 rfl rfl)) rfl hK 4 rfl (by intro C h; cases h) hP hD hS hA (fun cA => vp_cell_i cA _ _) (by decide) (by decide) (by decide) (Nat.le_of_ble_eq_true rfl) (Nat.le_of_ble_eq_true rfl) dd_Code_init_8 (fun q1 H hP hD hS => ?_)
  have hP : va_P D kx_cl [(h0, .inr (2, [.int 0, .int 0, .null, .null, .null, .null, .null, .null])), (q1, .inl (ca 4, 8192, .inl (fun _ => 0)))] H := hP
  have hD : va_D A [(h0, .inr (2, [.int 0, .int 0, .null, .null, .null, .null, .null, .null])), (q1, .inl (ca 4, 8192, .inl (fun _ => 0)))] := hD
  refine W.widen (k := 1) (n := 8192) (by omega) (by omega) ?_
  refine va_putF (D := D) (ci := 2) (v := .ref q1) (ty := .array .short) (C := kc_Code) (T := kf_Code) (N := 8) hx hb hts ki_Code kt_Code ko_Code kn_Code hown hK hP hD hS 0 rfl rfl 2 (by decide) (hts _ (xk_c1 (w := Cond.fieldLink "ModuleHouse$Code" 9 "ModuleHouse$Code" "op" "[S") 102 rfl rfl)) (fun _ h => h) rfl hin rfl (by decide +kernel) rfl rfl (Nat.le_of_ble_eq_true rfl) dd_Code_init_10 (fun H locs hP hD hS => ?_)
  have hP : va_P D kx_cl [(h0, .inr (2, [.int 0, .int 0, .ref q1, .null, .null, .null, .null, .null])), (q1, .inl (ca 4, 8192, .inl (fun _ => 0)))] H := hP
  have hD : va_D A [(h0, .inr (2, [.int 0, .int 0, .ref q1, .null, .null, .null, .null, .null])), (q1, .inl (ca 4, 8192, .inl (fun _ => 0)))] := hD
  refine lv_aload_n hx hb dd_Code_init_13 rfl (lv_at hl 0 rfl) ?_
  refine lv_sipush (v := 8192) hx hb dd_Code_init_14 (by decide) ?_
  refine xk_newa (atype := .int) (ty := .int) (cA := ca 1) (a0 := (8192, .inl (fun _ => 0))) (N' := 8192) hx hb (hts _ (xk_c1 (w := Cond.arrayClass .int) 88 rfl rfl)) rfl hK 1 rfl (by intro C h; cases h) hP hD hS hA (fun cA => vp_cell_i cA _ _) (by decide) (by decide) (by decide) (Nat.le_of_ble_eq_true rfl) (Nat.le_of_ble_eq_true rfl) dd_Code_init_17 (fun q2 H hP hD hS => ?_)
  have hP : va_P D kx_cl [(h0, .inr (2, [.int 0, .int 0, .ref q1, .null, .null, .null, .null, .null])), (q1, .inl (ca 4, 8192, .inl (fun _ => 0))), (q2, .inl (ca 1, 8192, .inl (fun _ => 0)))] H := hP
  have hD : va_D A [(h0, .inr (2, [.int 0, .int 0, .ref q1, .null, .null, .null, .null, .null])), (q1, .inl (ca 4, 8192, .inl (fun _ => 0))), (q2, .inl (ca 1, 8192, .inl (fun _ => 0)))] := hD
  refine W.widen (k := 2) (n := 16384) (by omega) (by omega) ?_
  refine va_putF (D := D) (ci := 2) (v := .ref q2) (ty := .array .int) (C := kc_Code) (T := kf_Code) (N := 8) hx hb hts ki_Code kt_Code ko_Code kn_Code hown hK hP hD hS 0 rfl rfl 3 (by decide) (hts _ (xk_c1 (w := Cond.fieldLink "ModuleHouse$Code" 15 "ModuleHouse$Code" "first" "[I") 106 rfl rfl)) (fun _ h => h) rfl hin rfl (by decide +kernel) rfl rfl (Nat.le_of_ble_eq_true rfl) dd_Code_init_19 (fun H locs hP hD hS => ?_)
  have hP : va_P D kx_cl [(h0, .inr (2, [.int 0, .int 0, .ref q1, .ref q2, .null, .null, .null, .null])), (q1, .inl (ca 4, 8192, .inl (fun _ => 0))), (q2, .inl (ca 1, 8192, .inl (fun _ => 0)))] H := hP
  have hD : va_D A [(h0, .inr (2, [.int 0, .int 0, .ref q1, .ref q2, .null, .null, .null, .null])), (q1, .inl (ca 4, 8192, .inl (fun _ => 0))), (q2, .inl (ca 1, 8192, .inl (fun _ => 0)))] := hD
  refine lv_aload_n hx hb dd_Code_init_22 rfl (lv_at hl 0 rfl) ?_
  refine lv_sipush (v := 8192) hx hb dd_Code_init_23 (by decide) ?_
  refine xk_newa (atype := .long) (ty := .long) (cA := ca 2) (a0 := (8192, .inr (.inl (fun _ => 0)))) (N' := 8192) hx hb (hts _ (xk_c1 (w := Cond.arrayClass .long) 87 rfl rfl)) rfl hK 2 rfl (by intro C h; cases h) hP hD hS hA (fun cA => vp_cell_l cA _ _) (by decide) (by decide) (by decide) (Nat.le_of_ble_eq_true rfl) (Nat.le_of_ble_eq_true rfl) dd_Code_init_26 (fun q3 H hP hD hS => ?_)
  have hP : va_P D kx_cl [(h0, .inr (2, [.int 0, .int 0, .ref q1, .ref q2, .null, .null, .null, .null])), (q1, .inl (ca 4, 8192, .inl (fun _ => 0))), (q2, .inl (ca 1, 8192, .inl (fun _ => 0))), (q3, .inl (ca 2, 8192, .inr (.inl (fun _ => 0))))] H := hP
  have hD : va_D A [(h0, .inr (2, [.int 0, .int 0, .ref q1, .ref q2, .null, .null, .null, .null])), (q1, .inl (ca 4, 8192, .inl (fun _ => 0))), (q2, .inl (ca 1, 8192, .inl (fun _ => 0))), (q3, .inl (ca 2, 8192, .inr (.inl (fun _ => 0))))] := hD
  refine W.widen (k := 3) (n := 24576) (by omega) (by omega) ?_
  refine va_putF (D := D) (ci := 2) (v := .ref q3) (ty := .array .long) (C := kc_Code) (T := kf_Code) (N := 8) hx hb hts ki_Code kt_Code ko_Code kn_Code hown hK hP hD hS 0 rfl rfl 4 (by decide) (hts _ (xk_c1 (w := Cond.fieldLink "ModuleHouse$Code" 19 "ModuleHouse$Code" "second" "[J") 109 rfl rfl)) (fun _ h => h) rfl hin rfl (by decide +kernel) rfl rfl (Nat.le_of_ble_eq_true rfl) dd_Code_init_28 (fun H locs hP hD hS => ?_)
  have hP : va_P D kx_cl [(h0, .inr (2, [.int 0, .int 0, .ref q1, .ref q2, .ref q3, .null, .null, .null])), (q1, .inl (ca 4, 8192, .inl (fun _ => 0))), (q2, .inl (ca 1, 8192, .inl (fun _ => 0))), (q3, .inl (ca 2, 8192, .inr (.inl (fun _ => 0))))] H := hP
  have hD : va_D A [(h0, .inr (2, [.int 0, .int 0, .ref q1, .ref q2, .ref q3, .null, .null, .null])), (q1, .inl (ca 4, 8192, .inl (fun _ => 0))), (q2, .inl (ca 1, 8192, .inl (fun _ => 0))), (q3, .inl (ca 2, 8192, .inr (.inl (fun _ => 0))))] := hD
  refine lv_aload_n hx hb dd_Code_init_31 rfl (lv_at hl 0 rfl) ?_
  refine lv_sipush (v := 8192) hx hb dd_Code_init_32 (by decide) ?_
  refine xk_newa (atype := .int) (ty := .int) (cA := ca 1) (a0 := (8192, .inl (fun _ => 0))) (N' := 8192) hx hb (hts _ (xk_c1 (w := Cond.arrayClass .int) 88 rfl rfl)) rfl hK 1 rfl (by intro C h; cases h) hP hD hS hA (fun cA => vp_cell_i cA _ _) (by decide) (by decide) (by decide) (Nat.le_of_ble_eq_true rfl) (Nat.le_of_ble_eq_true rfl) dd_Code_init_35 (fun q4 H hP hD hS => ?_)
  have hP : va_P D kx_cl [(h0, .inr (2, [.int 0, .int 0, .ref q1, .ref q2, .ref q3, .null, .null, .null])), (q1, .inl (ca 4, 8192, .inl (fun _ => 0))), (q2, .inl (ca 1, 8192, .inl (fun _ => 0))), (q3, .inl (ca 2, 8192, .inr (.inl (fun _ => 0)))), (q4, .inl (ca 1, 8192, .inl (fun _ => 0)))] H := hP
  have hD : va_D A [(h0, .inr (2, [.int 0, .int 0, .ref q1, .ref q2, .ref q3, .null, .null, .null])), (q1, .inl (ca 4, 8192, .inl (fun _ => 0))), (q2, .inl (ca 1, 8192, .inl (fun _ => 0))), (q3, .inl (ca 2, 8192, .inr (.inl (fun _ => 0)))), (q4, .inl (ca 1, 8192, .inl (fun _ => 0)))] := hD
  refine W.widen (k := 4) (n := 32768) (by omega) (by omega) ?_
  refine va_putF (D := D) (ci := 2) (v := .ref q4) (ty := .array .int) (C := kc_Code) (T := kf_Code) (N := 8) hx hb hts ki_Code kt_Code ko_Code kn_Code hown hK hP hD hS 0 rfl rfl 5 (by decide) (hts _ (xk_c1 (w := Cond.fieldLink "ModuleHouse$Code" 23 "ModuleHouse$Code" "mate" "[I") 112 rfl rfl)) (fun _ h => h) rfl hin rfl (by decide +kernel) rfl rfl (Nat.le_of_ble_eq_true rfl) dd_Code_init_37 (fun H locs hP hD hS => ?_)
  have hP : va_P D kx_cl [(h0, .inr (2, [.int 0, .int 0, .ref q1, .ref q2, .ref q3, .ref q4, .null, .null])), (q1, .inl (ca 4, 8192, .inl (fun _ => 0))), (q2, .inl (ca 1, 8192, .inl (fun _ => 0))), (q3, .inl (ca 2, 8192, .inr (.inl (fun _ => 0)))), (q4, .inl (ca 1, 8192, .inl (fun _ => 0)))] H := hP
  have hD : va_D A [(h0, .inr (2, [.int 0, .int 0, .ref q1, .ref q2, .ref q3, .ref q4, .null, .null])), (q1, .inl (ca 4, 8192, .inl (fun _ => 0))), (q2, .inl (ca 1, 8192, .inl (fun _ => 0))), (q3, .inl (ca 2, 8192, .inr (.inl (fun _ => 0)))), (q4, .inl (ca 1, 8192, .inl (fun _ => 0)))] := hD
  refine lv_aload_n hx hb dd_Code_init_40 rfl (lv_at hl 0 rfl) ?_
  refine lv_sipush (v := 8192) hx hb dd_Code_init_41 (by decide) ?_
  refine xk_newa (atype := .int) (ty := .int) (cA := ca 1) (a0 := (8192, .inl (fun _ => 0))) (N' := 8192) hx hb (hts _ (xk_c1 (w := Cond.arrayClass .int) 88 rfl rfl)) rfl hK 1 rfl (by intro C h; cases h) hP hD hS hA (fun cA => vp_cell_i cA _ _) (by decide) (by decide) (by decide) (Nat.le_of_ble_eq_true rfl) (Nat.le_of_ble_eq_true rfl) dd_Code_init_44 (fun q5 H hP hD hS => ?_)
  have hP : va_P D kx_cl [(h0, .inr (2, [.int 0, .int 0, .ref q1, .ref q2, .ref q3, .ref q4, .null, .null])), (q1, .inl (ca 4, 8192, .inl (fun _ => 0))), (q2, .inl (ca 1, 8192, .inl (fun _ => 0))), (q3, .inl (ca 2, 8192, .inr (.inl (fun _ => 0)))), (q4, .inl (ca 1, 8192, .inl (fun _ => 0))), (q5, .inl (ca 1, 8192, .inl (fun _ => 0)))] H := hP
  have hD : va_D A [(h0, .inr (2, [.int 0, .int 0, .ref q1, .ref q2, .ref q3, .ref q4, .null, .null])), (q1, .inl (ca 4, 8192, .inl (fun _ => 0))), (q2, .inl (ca 1, 8192, .inl (fun _ => 0))), (q3, .inl (ca 2, 8192, .inr (.inl (fun _ => 0)))), (q4, .inl (ca 1, 8192, .inl (fun _ => 0))), (q5, .inl (ca 1, 8192, .inl (fun _ => 0)))] := hD
  refine W.widen (k := 5) (n := 40960) (by omega) (by omega) ?_
  refine va_putF (D := D) (ci := 2) (v := .ref q5) (ty := .array .int) (C := kc_Code) (T := kf_Code) (N := 8) hx hb hts ki_Code kt_Code ko_Code kn_Code hown hK hP hD hS 0 rfl rfl 6 (by decide) (hts _ (xk_c1 (w := Cond.fieldLink "ModuleHouse$Code" 26 "ModuleHouse$Code" "height" "[I") 115 rfl rfl)) (fun _ h => h) rfl hin rfl (by decide +kernel) rfl rfl (Nat.le_of_ble_eq_true rfl) dd_Code_init_46 (fun H locs hP hD hS => ?_)
  have hP : va_P D kx_cl [(h0, .inr (2, [.int 0, .int 0, .ref q1, .ref q2, .ref q3, .ref q4, .ref q5, .null])), (q1, .inl (ca 4, 8192, .inl (fun _ => 0))), (q2, .inl (ca 1, 8192, .inl (fun _ => 0))), (q3, .inl (ca 2, 8192, .inr (.inl (fun _ => 0)))), (q4, .inl (ca 1, 8192, .inl (fun _ => 0))), (q5, .inl (ca 1, 8192, .inl (fun _ => 0)))] H := hP
  have hD : va_D A [(h0, .inr (2, [.int 0, .int 0, .ref q1, .ref q2, .ref q3, .ref q4, .ref q5, .null])), (q1, .inl (ca 4, 8192, .inl (fun _ => 0))), (q2, .inl (ca 1, 8192, .inl (fun _ => 0))), (q3, .inl (ca 2, 8192, .inr (.inl (fun _ => 0)))), (q4, .inl (ca 1, 8192, .inl (fun _ => 0))), (q5, .inl (ca 1, 8192, .inl (fun _ => 0)))] := hD
  refine lv_aload_n hx hb dd_Code_init_49 rfl (lv_at hl 0 rfl) ?_
  refine lv_sipush (v := 8192) hx hb dd_Code_init_50 (by decide) ?_
  refine xk_newa (atype := .int) (ty := .int) (cA := ca 1) (a0 := (8192, .inl (fun _ => 0))) (N' := 8192) hx hb (hts _ (xk_c1 (w := Cond.arrayClass .int) 88 rfl rfl)) rfl hK 1 rfl (by intro C h; cases h) hP hD hS hA (fun cA => vp_cell_i cA _ _) (by decide) (by decide) (by decide) (Nat.le_of_ble_eq_true rfl) (Nat.le_of_ble_eq_true rfl) dd_Code_init_53 (fun q6 H hP hD hS => ?_)
  have hP : va_P D kx_cl [(h0, .inr (2, [.int 0, .int 0, .ref q1, .ref q2, .ref q3, .ref q4, .ref q5, .null])), (q1, .inl (ca 4, 8192, .inl (fun _ => 0))), (q2, .inl (ca 1, 8192, .inl (fun _ => 0))), (q3, .inl (ca 2, 8192, .inr (.inl (fun _ => 0)))), (q4, .inl (ca 1, 8192, .inl (fun _ => 0))), (q5, .inl (ca 1, 8192, .inl (fun _ => 0))), (q6, .inl (ca 1, 8192, .inl (fun _ => 0)))] H := hP
  have hD : va_D A [(h0, .inr (2, [.int 0, .int 0, .ref q1, .ref q2, .ref q3, .ref q4, .ref q5, .null])), (q1, .inl (ca 4, 8192, .inl (fun _ => 0))), (q2, .inl (ca 1, 8192, .inl (fun _ => 0))), (q3, .inl (ca 2, 8192, .inr (.inl (fun _ => 0)))), (q4, .inl (ca 1, 8192, .inl (fun _ => 0))), (q5, .inl (ca 1, 8192, .inl (fun _ => 0))), (q6, .inl (ca 1, 8192, .inl (fun _ => 0)))] := hD
  refine W.widen (k := 6) (n := 49152) (by omega) (by omega) ?_
  refine va_putF (D := D) (ci := 2) (v := .ref q6) (ty := .array .int) (C := kc_Code) (T := kf_Code) (N := 8) hx hb hts ki_Code kt_Code ko_Code kn_Code hown hK hP hD hS 0 rfl rfl 7 (by decide) (hts _ (xk_c1 (w := Cond.fieldLink "ModuleHouse$Code" 29 "ModuleHouse$Code" "numbers" "[I") 118 rfl rfl)) (fun _ h => h) rfl hin rfl (by decide +kernel) rfl rfl (Nat.le_of_ble_eq_true rfl) dd_Code_init_55 (fun H locs hP hD hS => ?_)
  have hP : va_P D kx_cl [(h0, .inr (2, [.int 0, .int 0, .ref q1, .ref q2, .ref q3, .ref q4, .ref q5, .ref q6])), (q1, .inl (ca 4, 8192, .inl (fun _ => 0))), (q2, .inl (ca 1, 8192, .inl (fun _ => 0))), (q3, .inl (ca 2, 8192, .inr (.inl (fun _ => 0)))), (q4, .inl (ca 1, 8192, .inl (fun _ => 0))), (q5, .inl (ca 1, 8192, .inl (fun _ => 0))), (q6, .inl (ca 1, 8192, .inl (fun _ => 0)))] H := hP
  have hD : va_D A [(h0, .inr (2, [.int 0, .int 0, .ref q1, .ref q2, .ref q3, .ref q4, .ref q5, .ref q6])), (q1, .inl (ca 4, 8192, .inl (fun _ => 0))), (q2, .inl (ca 1, 8192, .inl (fun _ => 0))), (q3, .inl (ca 2, 8192, .inr (.inl (fun _ => 0)))), (q4, .inl (ca 1, 8192, .inl (fun _ => 0))), (q5, .inl (ca 1, 8192, .inl (fun _ => 0))), (q6, .inl (ca 1, 8192, .inl (fun _ => 0)))] := hD
  have hP9 := hP.sub (ws' := [(h0, .inr (2, [.int 0, .int 0, .ref q1, .ref q2, .ref q3, .ref q4, .ref q5, .ref q6])), (q1, .inl (ca 4, 8192, .inl (fun _ => 0))), (q2, .inl (ca 1, 8192, .inl (fun _ => 0))), (q3, .inl (ca 2, 8192, .inr (.inl (fun _ => 0)))), (q4, .inl (ca 1, 8192, .inl (fun _ => 0))), (q5, .inl (ca 1, 8192, .inl (fun _ => 0))), (q6, .inl (ca 1, 8192, .inl (fun _ => 0)))]) [0, 1, 2, 3, 4, 5, 6] rfl
  have hD9 := hD.sub (ws' := [(h0, .inr (2, [.int 0, .int 0, .ref q1, .ref q2, .ref q3, .ref q4, .ref q5, .ref q6])), (q1, .inl (ca 4, 8192, .inl (fun _ => 0))), (q2, .inl (ca 1, 8192, .inl (fun _ => 0))), (q3, .inl (ca 2, 8192, .inr (.inl (fun _ => 0)))), (q4, .inl (ca 1, 8192, .inl (fun _ => 0))), (q5, .inl (ca 1, 8192, .inl (fun _ => 0))), (q6, .inl (ca 1, 8192, .inl (fun _ => 0)))]) [0, 1, 2, 3, 4, 5, 6] (by decide) rfl
  exact W.vret hx hb hr (fun t ht hW => ⟨⟨(), rfl, trivial, q1, q2, q3, q4, q5, q6, by rw [ht]; exact hP9, hD9⟩, hS.F ht⟩) hS.2.2 dd_Code_init_58 hlocks
set_option maxHeartbeats 8000000 in
set_option maxRecDepth 100000 in
theorem cc_Row {l : Launch} (D : va_G) (ca : Nat → ClassId) (h0 : Nat) (sz : Nat) : Met l ⟨"ModuleHouse$Row", "<init>", "()V"⟩ (Cond.code ⟨"ModuleHouse$Row", "<init>", "()V"⟩ prog_10_method_1_code 1 none :: xk_gd) { frames := 1, cells := 4, slots := 260, locals := 14 } (va_Pc [.ref h0] (fun U => U.heap.size = sz ∧ va_P D kx_cl [(h0, .inr (8, [.int 0, .null, .null, .null, .null]))] U.heap ∧ va_K D kx_cl (kx_ty ca) U ∧ va_D (fun _ => True) [(h0, .inr (8, [.int 0, .null, .null, .null, .null]))] ∧ xk_Nw U)) (va_Qv (fun _ : Unit => True) (fun _ t => ∃ q1 q2 q3 q4 : Nat, va_P D kx_cl [(h0, .inr (8, [.int 0, .ref q1, .ref q2, .ref q3, .ref q4])), (q1, .inl (ca 1, 65, .inl (fun _ => 0))), (q2, .inl (ca 1, 65, .inl (fun _ => 0))), (q3, .inl (ca 1, 65, .inl (fun _ => 0))), (q4, .inl (ca 2, 65, .inr (.inl (fun _ => 0))))] t.heap ∧ va_D (va_A [(h0, .inr (8, [.int 0, .null, .null, .null, .null]))] sz) [(h0, .inr (8, [.int 0, .ref q1, .ref q2, .ref q3, .ref q4])), (q1, .inl (ca 1, 65, .inl (fun _ => 0))), (q2, .inl (ca 1, 65, .inl (fun _ => 0))), (q3, .inl (ca 1, 65, .inl (fun _ => 0))), (q4, .inl (ca 2, 65, .inr (.inl (fun _ => 0))))]) (va_A [(h0, .inr (8, [.int 0, .null, .null, .null, .null]))] sz)) 4 260 (va_A [(h0, .inr (8, [.int 0, .null, .null, .null, .null]))] sz) := by
  refine Met.ofW (cc := prog_10_method_1_code) (maxL := 1) (ret := none) (by decide) rfl ?_
  intro p e s m args below meth c s₁ B hml hv
  obtain ⟨rfl, hsz, hP, hK, hD0, hN⟩ := hv
  have hx := B.exec
  have hb := B.bytes
  have hr := B.returns
  have hts : ∀ w ∈ xk_gd, w.before [.ref h0].toArray s = true := fun w hw => atoms_spec (ws := Cond.code ⟨"ModuleHouse$Row", "<init>", "()V"⟩ prog_10_method_1_code 1 none :: xk_gd) B.pre w (List.mem_cons_of_mem _ hw)
  have hown : s.vm.findClass "ModuleHouse$Row" = some m.cls := findClass_of_methodNamed B.named
  have hlocks := B.notSynchronized
  have hin : meth.name = "<init>" := (name_of_methodNamed B.named B.method).1
  subst hsz
  have hD := hD0.self (sz := s.heap.size)
  generalize hAe : va_A [(h0, .inr (8, [.int 0, .null, .null, .null, .null]))] s.heap.size = A at hD ⊢
  have hA : ∀ q : Nat, s.heap.size ≤ q → A q := fun q h => by rw [← hAe]; exact Or.inr h
  have hS : va_S A s.heap s.heap [] := va_S.rf
  have hl := lv_entry [.ref h0] (n := 1) (Nat.le_of_ble_eq_true rfl)
  rw [lg_entry_eq]
  generalize (lg_sl [.ref h0] ++ List.replicate (1 - (lg_sl [.ref h0]).length) Slot.unset).toArray = ls at hl ⊢
  have hl : lv_has ls 1 [(0, .ref h0)] := hl
  refine lv_aload_n hx hb dd_Row_init_0 rfl (lv_at hl 0 rfl) ?_
  refine W.objInit hx hb hown (hts _ (xk_c1 (w := Cond.methodLink "ModuleHouse$Row" 3 Lib.objectInit) 144 rfl rfl)) (hts _ (xk_c1 (w := Cond.instanceMethod Lib.objectInit) 39 rfl rfl)) (hts _ (xk_c1 (w := Cond.code Lib.objectInit ⟨#[0xb1]⟩ 1 none) 40 rfl rfl)) rfl (by rw [hml]; exact hl.1) rfl dd_Row_init_1 (Nat.le_of_ble_eq_true rfl) (Nat.le_of_ble_eq_true rfl) ?_
  refine W.eq (g2 := F0 m 4 ls []) rfl ?_
  refine lv_aload_n hx hb dd_Row_init_4 rfl (lv_at hl 0 rfl) ?_
  refine lv_bipush (v := 65) hx hb dd_Row_init_5 (by decide) ?_
  refine xk_newa (atype := .int) (ty := .int) (cA := ca 1) (a0 := (65, .inl (fun _ => 0))) (N' := 65) hx hb (hts _ (xk_c1 (w := Cond.arrayClass .int) 88 rfl rfl)) rfl hK 1 rfl (by intro C h; cases h) hP hD hS hA (fun cA => vp_cell_i cA _ _) (by decide) (by decide) (by decide) (Nat.le_of_ble_eq_true rfl) (Nat.le_of_ble_eq_true rfl) dd_Row_init_7 (fun q1 H hP hD hS => ?_)
  have hP : va_P D kx_cl [(h0, .inr (8, [.int 0, .null, .null, .null, .null])), (q1, .inl (ca 1, 65, .inl (fun _ => 0)))] H := hP
  have hD : va_D A [(h0, .inr (8, [.int 0, .null, .null, .null, .null])), (q1, .inl (ca 1, 65, .inl (fun _ => 0)))] := hD
  refine W.widen (k := 1) (n := 65) (by omega) (by omega) ?_
  refine va_putF (D := D) (ci := 8) (v := .ref q1) (ty := .array .int) (C := kc_Row) (T := kf_Row) (N := 5) hx hb hts ki_Row kt_Row ko_Row kn_Row hown hK hP hD hS 0 rfl rfl 1 (by decide) (hts _ (xk_c1 (w := Cond.fieldLink "ModuleHouse$Row" 9 "ModuleHouse$Row" "kind" "[I") 150 rfl rfl)) (fun _ h => h) rfl hin rfl (by decide +kernel) rfl rfl (Nat.le_of_ble_eq_true rfl) dd_Row_init_9 (fun H locs hP hD hS => ?_)
  have hP : va_P D kx_cl [(h0, .inr (8, [.int 0, .ref q1, .null, .null, .null])), (q1, .inl (ca 1, 65, .inl (fun _ => 0)))] H := hP
  have hD : va_D A [(h0, .inr (8, [.int 0, .ref q1, .null, .null, .null])), (q1, .inl (ca 1, 65, .inl (fun _ => 0)))] := hD
  refine lv_aload_n hx hb dd_Row_init_12 rfl (lv_at hl 0 rfl) ?_
  refine lv_bipush (v := 65) hx hb dd_Row_init_13 (by decide) ?_
  refine xk_newa (atype := .int) (ty := .int) (cA := ca 1) (a0 := (65, .inl (fun _ => 0))) (N' := 65) hx hb (hts _ (xk_c1 (w := Cond.arrayClass .int) 88 rfl rfl)) rfl hK 1 rfl (by intro C h; cases h) hP hD hS hA (fun cA => vp_cell_i cA _ _) (by decide) (by decide) (by decide) (Nat.le_of_ble_eq_true rfl) (Nat.le_of_ble_eq_true rfl) dd_Row_init_15 (fun q2 H hP hD hS => ?_)
  have hP : va_P D kx_cl [(h0, .inr (8, [.int 0, .ref q1, .null, .null, .null])), (q1, .inl (ca 1, 65, .inl (fun _ => 0))), (q2, .inl (ca 1, 65, .inl (fun _ => 0)))] H := hP
  have hD : va_D A [(h0, .inr (8, [.int 0, .ref q1, .null, .null, .null])), (q1, .inl (ca 1, 65, .inl (fun _ => 0))), (q2, .inl (ca 1, 65, .inl (fun _ => 0)))] := hD
  refine W.widen (k := 2) (n := 130) (by omega) (by omega) ?_
  refine va_putF (D := D) (ci := 8) (v := .ref q2) (ty := .array .int) (C := kc_Row) (T := kf_Row) (N := 5) hx hb hts ki_Row kt_Row ko_Row kn_Row hown hK hP hD hS 0 rfl rfl 2 (by decide) (hts _ (xk_c1 (w := Cond.fieldLink "ModuleHouse$Row" 15 "ModuleHouse$Row" "first" "[I") 155 rfl rfl)) (fun _ h => h) rfl hin rfl (by decide +kernel) rfl rfl (Nat.le_of_ble_eq_true rfl) dd_Row_init_17 (fun H locs hP hD hS => ?_)
  have hP : va_P D kx_cl [(h0, .inr (8, [.int 0, .ref q1, .ref q2, .null, .null])), (q1, .inl (ca 1, 65, .inl (fun _ => 0))), (q2, .inl (ca 1, 65, .inl (fun _ => 0)))] H := hP
  have hD : va_D A [(h0, .inr (8, [.int 0, .ref q1, .ref q2, .null, .null])), (q1, .inl (ca 1, 65, .inl (fun _ => 0))), (q2, .inl (ca 1, 65, .inl (fun _ => 0)))] := hD
  refine lv_aload_n hx hb dd_Row_init_20 rfl (lv_at hl 0 rfl) ?_
  refine lv_bipush (v := 65) hx hb dd_Row_init_21 (by decide) ?_
  refine xk_newa (atype := .int) (ty := .int) (cA := ca 1) (a0 := (65, .inl (fun _ => 0))) (N' := 65) hx hb (hts _ (xk_c1 (w := Cond.arrayClass .int) 88 rfl rfl)) rfl hK 1 rfl (by intro C h; cases h) hP hD hS hA (fun cA => vp_cell_i cA _ _) (by decide) (by decide) (by decide) (Nat.le_of_ble_eq_true rfl) (Nat.le_of_ble_eq_true rfl) dd_Row_init_23 (fun q3 H hP hD hS => ?_)
  have hP : va_P D kx_cl [(h0, .inr (8, [.int 0, .ref q1, .ref q2, .null, .null])), (q1, .inl (ca 1, 65, .inl (fun _ => 0))), (q2, .inl (ca 1, 65, .inl (fun _ => 0))), (q3, .inl (ca 1, 65, .inl (fun _ => 0)))] H := hP
  have hD : va_D A [(h0, .inr (8, [.int 0, .ref q1, .ref q2, .null, .null])), (q1, .inl (ca 1, 65, .inl (fun _ => 0))), (q2, .inl (ca 1, 65, .inl (fun _ => 0))), (q3, .inl (ca 1, 65, .inl (fun _ => 0)))] := hD
  refine W.widen (k := 3) (n := 195) (by omega) (by omega) ?_
  refine va_putF (D := D) (ci := 8) (v := .ref q3) (ty := .array .int) (C := kc_Row) (T := kf_Row) (N := 5) hx hb hts ki_Row kt_Row ko_Row kn_Row hown hK hP hD hS 0 rfl rfl 3 (by decide) (hts _ (xk_c1 (w := Cond.fieldLink "ModuleHouse$Row" 18 "ModuleHouse$Row" "second" "[I") 161 rfl rfl)) (fun _ h => h) rfl hin rfl (by decide +kernel) rfl rfl (Nat.le_of_ble_eq_true rfl) dd_Row_init_25 (fun H locs hP hD hS => ?_)
  have hP : va_P D kx_cl [(h0, .inr (8, [.int 0, .ref q1, .ref q2, .ref q3, .null])), (q1, .inl (ca 1, 65, .inl (fun _ => 0))), (q2, .inl (ca 1, 65, .inl (fun _ => 0))), (q3, .inl (ca 1, 65, .inl (fun _ => 0)))] H := hP
  have hD : va_D A [(h0, .inr (8, [.int 0, .ref q1, .ref q2, .ref q3, .null])), (q1, .inl (ca 1, 65, .inl (fun _ => 0))), (q2, .inl (ca 1, 65, .inl (fun _ => 0))), (q3, .inl (ca 1, 65, .inl (fun _ => 0)))] := hD
  refine lv_aload_n hx hb dd_Row_init_28 rfl (lv_at hl 0 rfl) ?_
  refine lv_bipush (v := 65) hx hb dd_Row_init_29 (by decide) ?_
  refine xk_newa (atype := .long) (ty := .long) (cA := ca 2) (a0 := (65, .inr (.inl (fun _ => 0)))) (N' := 65) hx hb (hts _ (xk_c1 (w := Cond.arrayClass .long) 87 rfl rfl)) rfl hK 2 rfl (by intro C h; cases h) hP hD hS hA (fun cA => vp_cell_l cA _ _) (by decide) (by decide) (by decide) (Nat.le_of_ble_eq_true rfl) (Nat.le_of_ble_eq_true rfl) dd_Row_init_31 (fun q4 H hP hD hS => ?_)
  have hP : va_P D kx_cl [(h0, .inr (8, [.int 0, .ref q1, .ref q2, .ref q3, .null])), (q1, .inl (ca 1, 65, .inl (fun _ => 0))), (q2, .inl (ca 1, 65, .inl (fun _ => 0))), (q3, .inl (ca 1, 65, .inl (fun _ => 0))), (q4, .inl (ca 2, 65, .inr (.inl (fun _ => 0))))] H := hP
  have hD : va_D A [(h0, .inr (8, [.int 0, .ref q1, .ref q2, .ref q3, .null])), (q1, .inl (ca 1, 65, .inl (fun _ => 0))), (q2, .inl (ca 1, 65, .inl (fun _ => 0))), (q3, .inl (ca 1, 65, .inl (fun _ => 0))), (q4, .inl (ca 2, 65, .inr (.inl (fun _ => 0))))] := hD
  refine W.widen (k := 4) (n := 260) (by omega) (by omega) ?_
  refine va_putF (D := D) (ci := 8) (v := .ref q4) (ty := .array .long) (C := kc_Row) (T := kf_Row) (N := 5) hx hb hts ki_Row kt_Row ko_Row kn_Row hown hK hP hD hS 0 rfl rfl 4 (by decide) (hts _ (xk_c1 (w := Cond.fieldLink "ModuleHouse$Row" 21 "ModuleHouse$Row" "number" "[J") 166 rfl rfl)) (fun _ h => h) rfl hin rfl (by decide +kernel) rfl rfl (Nat.le_of_ble_eq_true rfl) dd_Row_init_33 (fun H locs hP hD hS => ?_)
  have hP : va_P D kx_cl [(h0, .inr (8, [.int 0, .ref q1, .ref q2, .ref q3, .ref q4])), (q1, .inl (ca 1, 65, .inl (fun _ => 0))), (q2, .inl (ca 1, 65, .inl (fun _ => 0))), (q3, .inl (ca 1, 65, .inl (fun _ => 0))), (q4, .inl (ca 2, 65, .inr (.inl (fun _ => 0))))] H := hP
  have hD : va_D A [(h0, .inr (8, [.int 0, .ref q1, .ref q2, .ref q3, .ref q4])), (q1, .inl (ca 1, 65, .inl (fun _ => 0))), (q2, .inl (ca 1, 65, .inl (fun _ => 0))), (q3, .inl (ca 1, 65, .inl (fun _ => 0))), (q4, .inl (ca 2, 65, .inr (.inl (fun _ => 0))))] := hD
  have hP9 := hP.sub (ws' := [(h0, .inr (8, [.int 0, .ref q1, .ref q2, .ref q3, .ref q4])), (q1, .inl (ca 1, 65, .inl (fun _ => 0))), (q2, .inl (ca 1, 65, .inl (fun _ => 0))), (q3, .inl (ca 1, 65, .inl (fun _ => 0))), (q4, .inl (ca 2, 65, .inr (.inl (fun _ => 0))))]) [0, 1, 2, 3, 4] rfl
  have hD9 := hD.sub (ws' := [(h0, .inr (8, [.int 0, .ref q1, .ref q2, .ref q3, .ref q4])), (q1, .inl (ca 1, 65, .inl (fun _ => 0))), (q2, .inl (ca 1, 65, .inl (fun _ => 0))), (q3, .inl (ca 1, 65, .inl (fun _ => 0))), (q4, .inl (ca 2, 65, .inr (.inl (fun _ => 0))))]) [0, 1, 2, 3, 4] (by decide) rfl
  exact W.vret hx hb hr (fun t ht hW => ⟨⟨(), rfl, trivial, q1, q2, q3, q4, by rw [ht]; exact hP9, hD9⟩, hS.F ht⟩) hS.2.2 dd_Row_init_36 hlocks
set_option maxHeartbeats 8000000 in
set_option maxRecDepth 100000 in
theorem cc_Reader {l : Launch} (D : va_G) (ca : Nat → ClassId) (h0 : Nat) (md m0 m1 m2 m3 m4 m5 m6 m7 m8 m9 : Nat) (sz : Nat) : Met l ⟨"ModuleHouse$Reader", "<init>", "(LModuleHouse$ReadModule;)V"⟩ (Cond.code ⟨"ModuleHouse$Reader", "<init>", "(LModuleHouse$ReadModule;)V"⟩ prog_9_method_1_code 2 none :: xk_gd) { frames := 1, cells := 0, slots := 0, locals := 14 } (va_Pc [.ref h0, .ref md] (fun U => U.heap.size = sz ∧ va_P D kx_cl [(h0, .inr (7, [.null, .null, .null, .null, .int 0, .int 0])), (md, .inr (6, [.ref m0, .ref m1, .ref m2, .ref m3, .ref m4, .ref m5, .ref m6, .ref m7, .ref m8, .ref m9, .int 0, .int 0]))] U.heap ∧ va_K D kx_cl (kx_ty ca) U ∧ va_D (fun _ => True) [(h0, .inr (7, [.null, .null, .null, .null, .int 0, .int 0])), (md, .inr (6, [.ref m0, .ref m1, .ref m2, .ref m3, .ref m4, .ref m5, .ref m6, .ref m7, .ref m8, .ref m9, .int 0, .int 0]))] ∧ xk_Nw U)) (va_Qv (fun _ : Unit => True) (fun _ t => va_P D kx_cl [(h0, .inr (7, [.ref m0, .ref md, .ref m1, .ref m2, .int 0, .int 0])), (md, .inr (6, [.ref m0, .ref m1, .ref m2, .ref m3, .ref m4, .ref m5, .ref m6, .ref m7, .ref m8, .ref m9, .int 0, .int 0]))] t.heap ∧ va_D (va_A [(h0, .inr (7, [.null, .null, .null, .null, .int 0, .int 0])), (md, .inr (6, [.ref m0, .ref m1, .ref m2, .ref m3, .ref m4, .ref m5, .ref m6, .ref m7, .ref m8, .ref m9, .int 0, .int 0]))] sz) [(h0, .inr (7, [.ref m0, .ref md, .ref m1, .ref m2, .int 0, .int 0])), (md, .inr (6, [.ref m0, .ref m1, .ref m2, .ref m3, .ref m4, .ref m5, .ref m6, .ref m7, .ref m8, .ref m9, .int 0, .int 0]))]) (va_A [(h0, .inr (7, [.null, .null, .null, .null, .int 0, .int 0])), (md, .inr (6, [.ref m0, .ref m1, .ref m2, .ref m3, .ref m4, .ref m5, .ref m6, .ref m7, .ref m8, .ref m9, .int 0, .int 0]))] sz)) 0 0 (va_A [(h0, .inr (7, [.null, .null, .null, .null, .int 0, .int 0])), (md, .inr (6, [.ref m0, .ref m1, .ref m2, .ref m3, .ref m4, .ref m5, .ref m6, .ref m7, .ref m8, .ref m9, .int 0, .int 0]))] sz) := by
  refine Met.ofW (cc := prog_9_method_1_code) (maxL := 2) (ret := none) (by decide) rfl ?_
  intro p e s m args below meth c s₁ B hml hv
  obtain ⟨rfl, hsz, hP, hK, hD0, hN⟩ := hv
  have hx := B.exec
  have hb := B.bytes
  have hr := B.returns
  have hts : ∀ w ∈ xk_gd, w.before [.ref h0, .ref md].toArray s = true := fun w hw => atoms_spec (ws := Cond.code ⟨"ModuleHouse$Reader", "<init>", "(LModuleHouse$ReadModule;)V"⟩ prog_9_method_1_code 2 none :: xk_gd) B.pre w (List.mem_cons_of_mem _ hw)
  have hown : s.vm.findClass "ModuleHouse$Reader" = some m.cls := findClass_of_methodNamed B.named
  have hlocks := B.notSynchronized
  have hin : meth.name = "<init>" := (name_of_methodNamed B.named B.method).1
  subst hsz
  have hD := hD0.self (sz := s.heap.size)
  generalize hAe : va_A [(h0, .inr (7, [.null, .null, .null, .null, .int 0, .int 0])), (md, .inr (6, [.ref m0, .ref m1, .ref m2, .ref m3, .ref m4, .ref m5, .ref m6, .ref m7, .ref m8, .ref m9, .int 0, .int 0]))] s.heap.size = A at hD ⊢
  have hA : ∀ q : Nat, s.heap.size ≤ q → A q := fun q h => by rw [← hAe]; exact Or.inr h
  have hS : va_S A s.heap s.heap [] := va_S.rf
  have hl := lv_entry [.ref h0, .ref md] (n := 2) (Nat.le_of_ble_eq_true rfl)
  rw [lg_entry_eq]
  generalize (lg_sl [.ref h0, .ref md] ++ List.replicate (2 - (lg_sl [.ref h0, .ref md]).length) Slot.unset).toArray = ls at hl ⊢
  have hl : lv_has ls 2 [(0, .ref h0), (1, .ref md)] := hl
  refine lv_aload_n hx hb dd_Reader_init_0 rfl (lv_at hl 0 rfl) ?_
  refine W.objInit hx hb hown (hts _ (xk_c2 (w := Cond.methodLink "ModuleHouse$Reader" 3 Lib.objectInit) 21 rfl rfl)) (hts _ (xk_c1 (w := Cond.instanceMethod Lib.objectInit) 39 rfl rfl)) (hts _ (xk_c1 (w := Cond.code Lib.objectInit ⟨#[0xb1]⟩ 1 none) 40 rfl rfl)) rfl (by rw [hml]; exact hl.1) rfl dd_Reader_init_1 (Nat.le_of_ble_eq_true rfl) (Nat.le_of_ble_eq_true rfl) ?_
  refine W.eq (g2 := F0 m 4 ls []) rfl ?_
  refine lv_aload_n hx hb dd_Reader_init_4 rfl (lv_at hl 0 rfl) ?_
  refine lv_aload_n hx hb dd_Reader_init_5 rfl (lv_at hl 1 rfl) ?_
  refine va_putF (D := D) (ci := 7) (v := .ref md) (ty := .object "ModuleHouse$ReadModule") (C := kc_Reader) (T := kf_Reader) (N := 6) hx hb hts ki_Reader kt_Reader ko_Reader kn_Reader hown hK hP hD hS 0 rfl rfl 1 (by decide) (hts _ (xk_c2 (w := Cond.fieldLink "ModuleHouse$Reader" 9 "ModuleHouse$Reader" "module" "LModuleHouse$ReadModule;") 23 rfl rfl)) (fun _ h => h) rfl hin rfl (by decide +kernel) rfl rfl (Nat.le_of_ble_eq_true rfl) dd_Reader_init_6 (fun H locs hP hD hS => ?_)
  have hP : va_P D kx_cl [(h0, .inr (7, [.null, .ref md, .null, .null, .int 0, .int 0])), (md, .inr (6, [.ref m0, .ref m1, .ref m2, .ref m3, .ref m4, .ref m5, .ref m6, .ref m7, .ref m8, .ref m9, .int 0, .int 0]))] H := hP
  have hD : va_D A [(h0, .inr (7, [.null, .ref md, .null, .null, .int 0, .int 0])), (md, .inr (6, [.ref m0, .ref m1, .ref m2, .ref m3, .ref m4, .ref m5, .ref m6, .ref m7, .ref m8, .ref m9, .int 0, .int 0]))] := hD
  refine lv_aload_n hx hb dd_Reader_init_9 rfl (lv_at hl 0 rfl) ?_
  refine lv_aload_n hx hb dd_Reader_init_10 rfl (lv_at hl 1 rfl) ?_
  refine va_get (D := D) (ci := 6) (v := .ref m0) (C := kc_Mod) (T := kf_Mod) (N := 12) hx hb hts ki_Mod hown hK hP 1 rfl rfl 0 (by decide) (hts _ (xk_c1 (w := Cond.fieldLink "ModuleHouse$Reader" 15 "ModuleHouse$ReadModule" "bytes" "[B") 183 rfl rfl)) (fun _ h => h) rfl dd_Reader_init_11 ?_
  refine va_putF (D := D) (ci := 7) (v := .ref m0) (ty := .array .byte) (C := kc_Reader) (T := kf_Reader) (N := 6) hx hb hts ki_Reader kt_Reader ko_Reader kn_Reader hown hK hP hD hS 0 rfl rfl 0 (by decide) (hts _ (xk_c2 (w := Cond.fieldLink "ModuleHouse$Reader" 21 "ModuleHouse$Reader" "bytes" "[B") 22 rfl rfl)) (fun _ h => h) rfl hin rfl (by decide +kernel) rfl rfl (Nat.le_of_ble_eq_true rfl) dd_Reader_init_14 (fun H locs hP hD hS => ?_)
  have hP : va_P D kx_cl [(h0, .inr (7, [.ref m0, .ref md, .null, .null, .int 0, .int 0])), (md, .inr (6, [.ref m0, .ref m1, .ref m2, .ref m3, .ref m4, .ref m5, .ref m6, .ref m7, .ref m8, .ref m9, .int 0, .int 0]))] H := hP
  have hD : va_D A [(h0, .inr (7, [.ref m0, .ref md, .null, .null, .int 0, .int 0])), (md, .inr (6, [.ref m0, .ref m1, .ref m2, .ref m3, .ref m4, .ref m5, .ref m6, .ref m7, .ref m8, .ref m9, .int 0, .int 0]))] := hD
  refine lv_aload_n hx hb dd_Reader_init_17 rfl (lv_at hl 0 rfl) ?_
  refine lv_aload_n hx hb dd_Reader_init_18 rfl (lv_at hl 1 rfl) ?_
  refine va_get (D := D) (ci := 6) (v := .ref m1) (C := kc_Mod) (T := kf_Mod) (N := 12) hx hb hts ki_Mod hown hK hP 1 rfl rfl 1 (by decide) (hts _ (xk_c1 (w := Cond.fieldLink "ModuleHouse$Reader" 22 "ModuleHouse$ReadModule" "types" "LModuleHouse$Types;") 187 rfl rfl)) (fun _ h => h) rfl dd_Reader_init_19 ?_
  refine va_putF (D := D) (ci := 7) (v := .ref m1) (ty := .object "ModuleHouse$Types") (C := kc_Reader) (T := kf_Reader) (N := 6) hx hb hts ki_Reader kt_Reader ko_Reader kn_Reader hown hK hP hD hS 0 rfl rfl 2 (by decide) (hts _ (xk_c2 (w := Cond.fieldLink "ModuleHouse$Reader" 26 "ModuleHouse$Reader" "types" "LModuleHouse$Types;") 24 rfl rfl)) (fun _ h => h) rfl hin rfl (by decide +kernel) rfl rfl (Nat.le_of_ble_eq_true rfl) dd_Reader_init_22 (fun H locs hP hD hS => ?_)
  have hP : va_P D kx_cl [(h0, .inr (7, [.ref m0, .ref md, .ref m1, .null, .int 0, .int 0])), (md, .inr (6, [.ref m0, .ref m1, .ref m2, .ref m3, .ref m4, .ref m5, .ref m6, .ref m7, .ref m8, .ref m9, .int 0, .int 0]))] H := hP
  have hD : va_D A [(h0, .inr (7, [.ref m0, .ref md, .ref m1, .null, .int 0, .int 0])), (md, .inr (6, [.ref m0, .ref m1, .ref m2, .ref m3, .ref m4, .ref m5, .ref m6, .ref m7, .ref m8, .ref m9, .int 0, .int 0]))] := hD
  refine lv_aload_n hx hb dd_Reader_init_25 rfl (lv_at hl 0 rfl) ?_
  refine lv_aload_n hx hb dd_Reader_init_26 rfl (lv_at hl 1 rfl) ?_
  refine va_get (D := D) (ci := 6) (v := .ref m2) (C := kc_Mod) (T := kf_Mod) (N := 12) hx hb hts ki_Mod hown hK hP 1 rfl rfl 2 (by decide) (hts _ (xk_c1 (w := Cond.fieldLink "ModuleHouse$Reader" 27 "ModuleHouse$ReadModule" "code" "LModuleHouse$Code;") 192 rfl rfl)) (fun _ h => h) rfl dd_Reader_init_27 ?_
  refine va_putF (D := D) (ci := 7) (v := .ref m2) (ty := .object "ModuleHouse$Code") (C := kc_Reader) (T := kf_Reader) (N := 6) hx hb hts ki_Reader kt_Reader ko_Reader kn_Reader hown hK hP hD hS 0 rfl rfl 3 (by decide) (hts _ (xk_c2 (w := Cond.fieldLink "ModuleHouse$Reader" 31 "ModuleHouse$Reader" "code" "LModuleHouse$Code;") 25 rfl rfl)) (fun _ h => h) rfl hin rfl (by decide +kernel) rfl rfl (Nat.le_of_ble_eq_true rfl) dd_Reader_init_30 (fun H locs hP hD hS => ?_)
  have hP : va_P D kx_cl [(h0, .inr (7, [.ref m0, .ref md, .ref m1, .ref m2, .int 0, .int 0])), (md, .inr (6, [.ref m0, .ref m1, .ref m2, .ref m3, .ref m4, .ref m5, .ref m6, .ref m7, .ref m8, .ref m9, .int 0, .int 0]))] H := hP
  have hD : va_D A [(h0, .inr (7, [.ref m0, .ref md, .ref m1, .ref m2, .int 0, .int 0])), (md, .inr (6, [.ref m0, .ref m1, .ref m2, .ref m3, .ref m4, .ref m5, .ref m6, .ref m7, .ref m8, .ref m9, .int 0, .int 0]))] := hD
  have hP9 := hP.sub (ws' := [(h0, .inr (7, [.ref m0, .ref md, .ref m1, .ref m2, .int 0, .int 0])), (md, .inr (6, [.ref m0, .ref m1, .ref m2, .ref m3, .ref m4, .ref m5, .ref m6, .ref m7, .ref m8, .ref m9, .int 0, .int 0]))]) [0, 1] rfl
  have hD9 := hD.sub (ws' := [(h0, .inr (7, [.ref m0, .ref md, .ref m1, .ref m2, .int 0, .int 0])), (md, .inr (6, [.ref m0, .ref m1, .ref m2, .ref m3, .ref m4, .ref m5, .ref m6, .ref m7, .ref m8, .ref m9, .int 0, .int 0]))]) [0, 1] (by decide) rfl
  exact W.vret hx hb hr (fun t ht hW => ⟨⟨(), rfl, trivial, by rw [ht]; exact hP9, hD9⟩, hS.F ht⟩) hS.2.2 dd_Reader_init_33 hlocks
set_option maxHeartbeats 8000000 in
set_option maxRecDepth 100000 in
theorem cc_Checker {l : Launch} (D : va_G) (ca : Nat → ClassId) (h0 : Nat) (md m0 m1 m2 m3 m4 m5 m6 m7 m8 m9 : Nat) (sz : Nat) : Met l ⟨"ModuleHouse$Checker", "<init>", "(LModuleHouse$ReadModule;)V"⟩ (Cond.code ⟨"ModuleHouse$Checker", "<init>", "(LModuleHouse$ReadModule;)V"⟩ prog_2_method_1_code 2 none :: xk_gd) { frames := 1, cells := 4, slots := 500, locals := 14 } (va_Pc [.ref h0, .ref md] (fun U => U.heap.size = sz ∧ va_P D kx_cl [(h0, .inr (1, [.null, .null, .null, .null, .null, .null, .null, .int 0, .int 0, .int 0, .int 0])), (md, .inr (6, [.ref m0, .ref m1, .ref m2, .ref m3, .ref m4, .ref m5, .ref m6, .ref m7, .ref m8, .ref m9, .int 0, .int 0]))] U.heap ∧ va_K D kx_cl (kx_ty ca) U ∧ va_D (fun _ => True) [(h0, .inr (1, [.null, .null, .null, .null, .null, .null, .null, .int 0, .int 0, .int 0, .int 0])), (md, .inr (6, [.ref m0, .ref m1, .ref m2, .ref m3, .ref m4, .ref m5, .ref m6, .ref m7, .ref m8, .ref m9, .int 0, .int 0]))] ∧ xk_Nw U)) (va_Qv (fun _ : Unit => True) (fun _ t => ∃ q1 q2 q3 q4 : Nat, va_P D kx_cl [(h0, .inr (1, [.ref md, .ref m1, .ref m2, .ref q1, .ref q2, .ref q3, .ref q4, .int 0, .int 0, .int 0, .int 0])), (md, .inr (6, [.ref m0, .ref m1, .ref m2, .ref m3, .ref m4, .ref m5, .ref m6, .ref m7, .ref m8, .ref m9, .int 0, .int 0])), (q1, .inl (ca 1, 100, .inl (fun _ => 0))), (q2, .inl (ca 1, 100, .inl (fun _ => 0))), (q3, .inl (ca 3, 100, .inl (fun _ => 0))), (q4, .inl (ca 1, 200, .inl (fun _ => 0)))] t.heap ∧ va_D (va_A [(h0, .inr (1, [.null, .null, .null, .null, .null, .null, .null, .int 0, .int 0, .int 0, .int 0])), (md, .inr (6, [.ref m0, .ref m1, .ref m2, .ref m3, .ref m4, .ref m5, .ref m6, .ref m7, .ref m8, .ref m9, .int 0, .int 0]))] sz) [(h0, .inr (1, [.ref md, .ref m1, .ref m2, .ref q1, .ref q2, .ref q3, .ref q4, .int 0, .int 0, .int 0, .int 0])), (md, .inr (6, [.ref m0, .ref m1, .ref m2, .ref m3, .ref m4, .ref m5, .ref m6, .ref m7, .ref m8, .ref m9, .int 0, .int 0])), (q1, .inl (ca 1, 100, .inl (fun _ => 0))), (q2, .inl (ca 1, 100, .inl (fun _ => 0))), (q3, .inl (ca 3, 100, .inl (fun _ => 0))), (q4, .inl (ca 1, 200, .inl (fun _ => 0)))]) (va_A [(h0, .inr (1, [.null, .null, .null, .null, .null, .null, .null, .int 0, .int 0, .int 0, .int 0])), (md, .inr (6, [.ref m0, .ref m1, .ref m2, .ref m3, .ref m4, .ref m5, .ref m6, .ref m7, .ref m8, .ref m9, .int 0, .int 0]))] sz)) 4 500 (va_A [(h0, .inr (1, [.null, .null, .null, .null, .null, .null, .null, .int 0, .int 0, .int 0, .int 0])), (md, .inr (6, [.ref m0, .ref m1, .ref m2, .ref m3, .ref m4, .ref m5, .ref m6, .ref m7, .ref m8, .ref m9, .int 0, .int 0]))] sz) := by
  refine Met.ofW (cc := prog_2_method_1_code) (maxL := 2) (ret := none) (by decide) rfl ?_
  intro p e s m args below meth c s₁ B hml hv
  obtain ⟨rfl, hsz, hP, hK, hD0, hN⟩ := hv
  have hx := B.exec
  have hb := B.bytes
  have hr := B.returns
  have hts : ∀ w ∈ xk_gd, w.before [.ref h0, .ref md].toArray s = true := fun w hw => atoms_spec (ws := Cond.code ⟨"ModuleHouse$Checker", "<init>", "(LModuleHouse$ReadModule;)V"⟩ prog_2_method_1_code 2 none :: xk_gd) B.pre w (List.mem_cons_of_mem _ hw)
  have hown : s.vm.findClass "ModuleHouse$Checker" = some m.cls := findClass_of_methodNamed B.named
  have hlocks := B.notSynchronized
  have hin : meth.name = "<init>" := (name_of_methodNamed B.named B.method).1
  subst hsz
  have hD := hD0.self (sz := s.heap.size)
  generalize hAe : va_A [(h0, .inr (1, [.null, .null, .null, .null, .null, .null, .null, .int 0, .int 0, .int 0, .int 0])), (md, .inr (6, [.ref m0, .ref m1, .ref m2, .ref m3, .ref m4, .ref m5, .ref m6, .ref m7, .ref m8, .ref m9, .int 0, .int 0]))] s.heap.size = A at hD ⊢
  have hA : ∀ q : Nat, s.heap.size ≤ q → A q := fun q h => by rw [← hAe]; exact Or.inr h
  have hS : va_S A s.heap s.heap [] := va_S.rf
  have hl := lv_entry [.ref h0, .ref md] (n := 2) (Nat.le_of_ble_eq_true rfl)
  rw [lg_entry_eq]
  generalize (lg_sl [.ref h0, .ref md] ++ List.replicate (2 - (lg_sl [.ref h0, .ref md]).length) Slot.unset).toArray = ls at hl ⊢
  have hl : lv_has ls 2 [(0, .ref h0), (1, .ref md)] := hl
  refine lv_aload_n hx hb dd_Checker_init_0 rfl (lv_at hl 0 rfl) ?_
  refine W.objInit hx hb hown (hts _ (xk_c2 (w := Cond.methodLink "ModuleHouse$Checker" 5 Lib.objectInit) 46 rfl rfl)) (hts _ (xk_c1 (w := Cond.instanceMethod Lib.objectInit) 39 rfl rfl)) (hts _ (xk_c1 (w := Cond.code Lib.objectInit ⟨#[0xb1]⟩ 1 none) 40 rfl rfl)) rfl (by rw [hml]; exact hl.1) rfl dd_Checker_init_1 (Nat.le_of_ble_eq_true rfl) (Nat.le_of_ble_eq_true rfl) ?_
  refine W.eq (g2 := F0 m 4 ls []) rfl ?_
  refine lv_aload_n hx hb dd_Checker_init_4 rfl (lv_at hl 0 rfl) ?_
  refine lv_bipush (v := 100) hx hb dd_Checker_init_5 (by decide) ?_
  refine xk_newa (atype := .int) (ty := .int) (cA := ca 1) (a0 := (100, .inl (fun _ => 0))) (N' := 100) hx hb (hts _ (xk_c1 (w := Cond.arrayClass .int) 88 rfl rfl)) rfl hK 1 rfl (by intro C h; cases h) hP hD hS hA (fun cA => vp_cell_i cA _ _) (by decide) (by decide) (by decide) (Nat.le_of_ble_eq_true rfl) (Nat.le_of_ble_eq_true rfl) dd_Checker_init_7 (fun q1 H hP hD hS => ?_)
  have hP : va_P D kx_cl [(h0, .inr (1, [.null, .null, .null, .null, .null, .null, .null, .int 0, .int 0, .int 0, .int 0])), (md, .inr (6, [.ref m0, .ref m1, .ref m2, .ref m3, .ref m4, .ref m5, .ref m6, .ref m7, .ref m8, .ref m9, .int 0, .int 0])), (q1, .inl (ca 1, 100, .inl (fun _ => 0)))] H := hP
  have hD : va_D A [(h0, .inr (1, [.null, .null, .null, .null, .null, .null, .null, .int 0, .int 0, .int 0, .int 0])), (md, .inr (6, [.ref m0, .ref m1, .ref m2, .ref m3, .ref m4, .ref m5, .ref m6, .ref m7, .ref m8, .ref m9, .int 0, .int 0])), (q1, .inl (ca 1, 100, .inl (fun _ => 0)))] := hD
  refine W.widen (k := 1) (n := 100) (by omega) (by omega) ?_
  refine va_putF (D := D) (ci := 1) (v := .ref q1) (ty := .array .int) (C := kc_Checker) (T := kf_Checker) (N := 11) hx hb hts ki_Checker kt_Checker ko_Checker kn_Checker hown hK hP hD hS 0 rfl rfl 3 (by decide) (hts _ (xk_c2 (w := Cond.fieldLink "ModuleHouse$Checker" 11 "ModuleHouse$Checker" "stack" "[I") 50 rfl rfl)) (fun _ h => h) rfl hin rfl (by decide +kernel) rfl rfl (Nat.le_of_ble_eq_true rfl) dd_Checker_init_9 (fun H locs hP hD hS => ?_)
  have hP : va_P D kx_cl [(h0, .inr (1, [.null, .null, .null, .ref q1, .null, .null, .null, .int 0, .int 0, .int 0, .int 0])), (md, .inr (6, [.ref m0, .ref m1, .ref m2, .ref m3, .ref m4, .ref m5, .ref m6, .ref m7, .ref m8, .ref m9, .int 0, .int 0])), (q1, .inl (ca 1, 100, .inl (fun _ => 0)))] H := hP
  have hD : va_D A [(h0, .inr (1, [.null, .null, .null, .ref q1, .null, .null, .null, .int 0, .int 0, .int 0, .int 0])), (md, .inr (6, [.ref m0, .ref m1, .ref m2, .ref m3, .ref m4, .ref m5, .ref m6, .ref m7, .ref m8, .ref m9, .int 0, .int 0])), (q1, .inl (ca 1, 100, .inl (fun _ => 0)))] := hD
  refine lv_aload_n hx hb dd_Checker_init_12 rfl (lv_at hl 0 rfl) ?_
  refine lv_bipush (v := 100) hx hb dd_Checker_init_13 (by decide) ?_
  refine xk_newa (atype := .int) (ty := .int) (cA := ca 1) (a0 := (100, .inl (fun _ => 0))) (N' := 100) hx hb (hts _ (xk_c1 (w := Cond.arrayClass .int) 88 rfl rfl)) rfl hK 1 rfl (by intro C h; cases h) hP hD hS hA (fun cA => vp_cell_i cA _ _) (by decide) (by decide) (by decide) (Nat.le_of_ble_eq_true rfl) (Nat.le_of_ble_eq_true rfl) dd_Checker_init_15 (fun q2 H hP hD hS => ?_)
  have hP : va_P D kx_cl [(h0, .inr (1, [.null, .null, .null, .ref q1, .null, .null, .null, .int 0, .int 0, .int 0, .int 0])), (md, .inr (6, [.ref m0, .ref m1, .ref m2, .ref m3, .ref m4, .ref m5, .ref m6, .ref m7, .ref m8, .ref m9, .int 0, .int 0])), (q1, .inl (ca 1, 100, .inl (fun _ => 0))), (q2, .inl (ca 1, 100, .inl (fun _ => 0)))] H := hP
  have hD : va_D A [(h0, .inr (1, [.null, .null, .null, .ref q1, .null, .null, .null, .int 0, .int 0, .int 0, .int 0])), (md, .inr (6, [.ref m0, .ref m1, .ref m2, .ref m3, .ref m4, .ref m5, .ref m6, .ref m7, .ref m8, .ref m9, .int 0, .int 0])), (q1, .inl (ca 1, 100, .inl (fun _ => 0))), (q2, .inl (ca 1, 100, .inl (fun _ => 0)))] := hD
  refine W.widen (k := 2) (n := 200) (by omega) (by omega) ?_
  refine va_putF (D := D) (ci := 1) (v := .ref q2) (ty := .array .int) (C := kc_Checker) (T := kf_Checker) (N := 11) hx hb hts ki_Checker kt_Checker ko_Checker kn_Checker hown hK hP hD hS 0 rfl rfl 4 (by decide) (hts _ (xk_c2 (w := Cond.fieldLink "ModuleHouse$Checker" 17 "ModuleHouse$Checker" "opened" "[I") 51 rfl rfl)) (fun _ h => h) rfl hin rfl (by decide +kernel) rfl rfl (Nat.le_of_ble_eq_true rfl) dd_Checker_init_17 (fun H locs hP hD hS => ?_)
  have hP : va_P D kx_cl [(h0, .inr (1, [.null, .null, .null, .ref q1, .ref q2, .null, .null, .int 0, .int 0, .int 0, .int 0])), (md, .inr (6, [.ref m0, .ref m1, .ref m2, .ref m3, .ref m4, .ref m5, .ref m6, .ref m7, .ref m8, .ref m9, .int 0, .int 0])), (q1, .inl (ca 1, 100, .inl (fun _ => 0))), (q2, .inl (ca 1, 100, .inl (fun _ => 0)))] H := hP
  have hD : va_D A [(h0, .inr (1, [.null, .null, .null, .ref q1, .ref q2, .null, .null, .int 0, .int 0, .int 0, .int 0])), (md, .inr (6, [.ref m0, .ref m1, .ref m2, .ref m3, .ref m4, .ref m5, .ref m6, .ref m7, .ref m8, .ref m9, .int 0, .int 0])), (q1, .inl (ca 1, 100, .inl (fun _ => 0))), (q2, .inl (ca 1, 100, .inl (fun _ => 0)))] := hD
  refine lv_aload_n hx hb dd_Checker_init_20 rfl (lv_at hl 0 rfl) ?_
  refine lv_bipush (v := 100) hx hb dd_Checker_init_21 (by decide) ?_
  refine xk_newa (atype := .boolean) (ty := .boolean) (cA := ca 3) (a0 := (100, .inl (fun _ => 0))) (N' := 100) hx hb (hts _ (xk_c2 (w := Cond.arrayClass .boolean) 81 rfl rfl)) rfl hK 3 rfl (by intro C h; cases h) hP hD hS hA (fun cA => vp_cell_i cA _ _) (by decide) (by decide) (by decide) (Nat.le_of_ble_eq_true rfl) (Nat.le_of_ble_eq_true rfl) dd_Checker_init_23 (fun q3 H hP hD hS => ?_)
  have hP : va_P D kx_cl [(h0, .inr (1, [.null, .null, .null, .ref q1, .ref q2, .null, .null, .int 0, .int 0, .int 0, .int 0])), (md, .inr (6, [.ref m0, .ref m1, .ref m2, .ref m3, .ref m4, .ref m5, .ref m6, .ref m7, .ref m8, .ref m9, .int 0, .int 0])), (q1, .inl (ca 1, 100, .inl (fun _ => 0))), (q2, .inl (ca 1, 100, .inl (fun _ => 0))), (q3, .inl (ca 3, 100, .inl (fun _ => 0)))] H := hP
  have hD : va_D A [(h0, .inr (1, [.null, .null, .null, .ref q1, .ref q2, .null, .null, .int 0, .int 0, .int 0, .int 0])), (md, .inr (6, [.ref m0, .ref m1, .ref m2, .ref m3, .ref m4, .ref m5, .ref m6, .ref m7, .ref m8, .ref m9, .int 0, .int 0])), (q1, .inl (ca 1, 100, .inl (fun _ => 0))), (q2, .inl (ca 1, 100, .inl (fun _ => 0))), (q3, .inl (ca 3, 100, .inl (fun _ => 0)))] := hD
  refine W.widen (k := 3) (n := 300) (by omega) (by omega) ?_
  refine va_putF (D := D) (ci := 1) (v := .ref q3) (ty := .array .boolean) (C := kc_Checker) (T := kf_Checker) (N := 11) hx hb hts ki_Checker kt_Checker ko_Checker kn_Checker hown hK hP hD hS 0 rfl rfl 5 (by decide) (hts _ (xk_c2 (w := Cond.fieldLink "ModuleHouse$Checker" 20 "ModuleHouse$Checker" "lost" "[Z") 52 rfl rfl)) (fun _ h => h) rfl hin rfl (by decide +kernel) rfl rfl (Nat.le_of_ble_eq_true rfl) dd_Checker_init_25 (fun H locs hP hD hS => ?_)
  have hP : va_P D kx_cl [(h0, .inr (1, [.null, .null, .null, .ref q1, .ref q2, .ref q3, .null, .int 0, .int 0, .int 0, .int 0])), (md, .inr (6, [.ref m0, .ref m1, .ref m2, .ref m3, .ref m4, .ref m5, .ref m6, .ref m7, .ref m8, .ref m9, .int 0, .int 0])), (q1, .inl (ca 1, 100, .inl (fun _ => 0))), (q2, .inl (ca 1, 100, .inl (fun _ => 0))), (q3, .inl (ca 3, 100, .inl (fun _ => 0)))] H := hP
  have hD : va_D A [(h0, .inr (1, [.null, .null, .null, .ref q1, .ref q2, .ref q3, .null, .int 0, .int 0, .int 0, .int 0])), (md, .inr (6, [.ref m0, .ref m1, .ref m2, .ref m3, .ref m4, .ref m5, .ref m6, .ref m7, .ref m8, .ref m9, .int 0, .int 0])), (q1, .inl (ca 1, 100, .inl (fun _ => 0))), (q2, .inl (ca 1, 100, .inl (fun _ => 0))), (q3, .inl (ca 3, 100, .inl (fun _ => 0)))] := hD
  refine lv_aload_n hx hb dd_Checker_init_28 rfl (lv_at hl 0 rfl) ?_
  refine lv_sipush (v := 200) hx hb dd_Checker_init_29 (by decide) ?_
  refine xk_newa (atype := .int) (ty := .int) (cA := ca 1) (a0 := (200, .inl (fun _ => 0))) (N' := 200) hx hb (hts _ (xk_c1 (w := Cond.arrayClass .int) 88 rfl rfl)) rfl hK 1 rfl (by intro C h; cases h) hP hD hS hA (fun cA => vp_cell_i cA _ _) (by decide) (by decide) (by decide) (Nat.le_of_ble_eq_true rfl) (Nat.le_of_ble_eq_true rfl) dd_Checker_init_32 (fun q4 H hP hD hS => ?_)
  have hP : va_P D kx_cl [(h0, .inr (1, [.null, .null, .null, .ref q1, .ref q2, .ref q3, .null, .int 0, .int 0, .int 0, .int 0])), (md, .inr (6, [.ref m0, .ref m1, .ref m2, .ref m3, .ref m4, .ref m5, .ref m6, .ref m7, .ref m8, .ref m9, .int 0, .int 0])), (q1, .inl (ca 1, 100, .inl (fun _ => 0))), (q2, .inl (ca 1, 100, .inl (fun _ => 0))), (q3, .inl (ca 3, 100, .inl (fun _ => 0))), (q4, .inl (ca 1, 200, .inl (fun _ => 0)))] H := hP
  have hD : va_D A [(h0, .inr (1, [.null, .null, .null, .ref q1, .ref q2, .ref q3, .null, .int 0, .int 0, .int 0, .int 0])), (md, .inr (6, [.ref m0, .ref m1, .ref m2, .ref m3, .ref m4, .ref m5, .ref m6, .ref m7, .ref m8, .ref m9, .int 0, .int 0])), (q1, .inl (ca 1, 100, .inl (fun _ => 0))), (q2, .inl (ca 1, 100, .inl (fun _ => 0))), (q3, .inl (ca 3, 100, .inl (fun _ => 0))), (q4, .inl (ca 1, 200, .inl (fun _ => 0)))] := hD
  refine W.widen (k := 4) (n := 500) (by omega) (by omega) ?_
  refine va_putF (D := D) (ci := 1) (v := .ref q4) (ty := .array .int) (C := kc_Checker) (T := kf_Checker) (N := 11) hx hb hts ki_Checker kt_Checker ko_Checker kn_Checker hown hK hP hD hS 0 rfl rfl 6 (by decide) (hts _ (xk_c2 (w := Cond.fieldLink "ModuleHouse$Checker" 24 "ModuleHouse$Checker" "local" "[I") 53 rfl rfl)) (fun _ h => h) rfl hin rfl (by decide +kernel) rfl rfl (Nat.le_of_ble_eq_true rfl) dd_Checker_init_34 (fun H locs hP hD hS => ?_)
  have hP : va_P D kx_cl [(h0, .inr (1, [.null, .null, .null, .ref q1, .ref q2, .ref q3, .ref q4, .int 0, .int 0, .int 0, .int 0])), (md, .inr (6, [.ref m0, .ref m1, .ref m2, .ref m3, .ref m4, .ref m5, .ref m6, .ref m7, .ref m8, .ref m9, .int 0, .int 0])), (q1, .inl (ca 1, 100, .inl (fun _ => 0))), (q2, .inl (ca 1, 100, .inl (fun _ => 0))), (q3, .inl (ca 3, 100, .inl (fun _ => 0))), (q4, .inl (ca 1, 200, .inl (fun _ => 0)))] H := hP
  have hD : va_D A [(h0, .inr (1, [.null, .null, .null, .ref q1, .ref q2, .ref q3, .ref q4, .int 0, .int 0, .int 0, .int 0])), (md, .inr (6, [.ref m0, .ref m1, .ref m2, .ref m3, .ref m4, .ref m5, .ref m6, .ref m7, .ref m8, .ref m9, .int 0, .int 0])), (q1, .inl (ca 1, 100, .inl (fun _ => 0))), (q2, .inl (ca 1, 100, .inl (fun _ => 0))), (q3, .inl (ca 3, 100, .inl (fun _ => 0))), (q4, .inl (ca 1, 200, .inl (fun _ => 0)))] := hD
  refine lv_aload_n hx hb dd_Checker_init_37 rfl (lv_at hl 0 rfl) ?_
  refine lv_aload_n hx hb dd_Checker_init_38 rfl (lv_at hl 1 rfl) ?_
  refine va_putF (D := D) (ci := 1) (v := .ref md) (ty := .object "ModuleHouse$ReadModule") (C := kc_Checker) (T := kf_Checker) (N := 11) hx hb hts ki_Checker kt_Checker ko_Checker kn_Checker hown hK hP hD hS 0 rfl rfl 0 (by decide) (hts _ (xk_c2 (w := Cond.fieldLink "ModuleHouse$Checker" 27 "ModuleHouse$Checker" "module" "LModuleHouse$ReadModule;") 47 rfl rfl)) (fun _ h => h) rfl hin rfl (by decide +kernel) rfl rfl (Nat.le_of_ble_eq_true rfl) dd_Checker_init_39 (fun H locs hP hD hS => ?_)
  have hP : va_P D kx_cl [(h0, .inr (1, [.ref md, .null, .null, .ref q1, .ref q2, .ref q3, .ref q4, .int 0, .int 0, .int 0, .int 0])), (md, .inr (6, [.ref m0, .ref m1, .ref m2, .ref m3, .ref m4, .ref m5, .ref m6, .ref m7, .ref m8, .ref m9, .int 0, .int 0])), (q1, .inl (ca 1, 100, .inl (fun _ => 0))), (q2, .inl (ca 1, 100, .inl (fun _ => 0))), (q3, .inl (ca 3, 100, .inl (fun _ => 0))), (q4, .inl (ca 1, 200, .inl (fun _ => 0)))] H := hP
  have hD : va_D A [(h0, .inr (1, [.ref md, .null, .null, .ref q1, .ref q2, .ref q3, .ref q4, .int 0, .int 0, .int 0, .int 0])), (md, .inr (6, [.ref m0, .ref m1, .ref m2, .ref m3, .ref m4, .ref m5, .ref m6, .ref m7, .ref m8, .ref m9, .int 0, .int 0])), (q1, .inl (ca 1, 100, .inl (fun _ => 0))), (q2, .inl (ca 1, 100, .inl (fun _ => 0))), (q3, .inl (ca 3, 100, .inl (fun _ => 0))), (q4, .inl (ca 1, 200, .inl (fun _ => 0)))] := hD
  refine lv_aload_n hx hb dd_Checker_init_42 rfl (lv_at hl 0 rfl) ?_
  refine lv_aload_n hx hb dd_Checker_init_43 rfl (lv_at hl 1 rfl) ?_
  refine va_get (D := D) (ci := 6) (v := .ref m1) (C := kc_Mod) (T := kf_Mod) (N := 12) hx hb hts ki_Mod hown hK hP 1 rfl rfl 1 (by decide) (hts _ (xk_c1 (w := Cond.fieldLink "ModuleHouse$Checker" 31 "ModuleHouse$ReadModule" "types" "LModuleHouse$Types;") 189 rfl rfl)) (fun _ h => h) rfl dd_Checker_init_44 ?_
  refine va_putF (D := D) (ci := 1) (v := .ref m1) (ty := .object "ModuleHouse$Types") (C := kc_Checker) (T := kf_Checker) (N := 11) hx hb hts ki_Checker kt_Checker ko_Checker kn_Checker hown hK hP hD hS 0 rfl rfl 1 (by decide) (hts _ (xk_c2 (w := Cond.fieldLink "ModuleHouse$Checker" 37 "ModuleHouse$Checker" "types" "LModuleHouse$Types;") 48 rfl rfl)) (fun _ h => h) rfl hin rfl (by decide +kernel) rfl rfl (Nat.le_of_ble_eq_true rfl) dd_Checker_init_47 (fun H locs hP hD hS => ?_)
  have hP : va_P D kx_cl [(h0, .inr (1, [.ref md, .ref m1, .null, .ref q1, .ref q2, .ref q3, .ref q4, .int 0, .int 0, .int 0, .int 0])), (md, .inr (6, [.ref m0, .ref m1, .ref m2, .ref m3, .ref m4, .ref m5, .ref m6, .ref m7, .ref m8, .ref m9, .int 0, .int 0])), (q1, .inl (ca 1, 100, .inl (fun _ => 0))), (q2, .inl (ca 1, 100, .inl (fun _ => 0))), (q3, .inl (ca 3, 100, .inl (fun _ => 0))), (q4, .inl (ca 1, 200, .inl (fun _ => 0)))] H := hP
  have hD : va_D A [(h0, .inr (1, [.ref md, .ref m1, .null, .ref q1, .ref q2, .ref q3, .ref q4, .int 0, .int 0, .int 0, .int 0])), (md, .inr (6, [.ref m0, .ref m1, .ref m2, .ref m3, .ref m4, .ref m5, .ref m6, .ref m7, .ref m8, .ref m9, .int 0, .int 0])), (q1, .inl (ca 1, 100, .inl (fun _ => 0))), (q2, .inl (ca 1, 100, .inl (fun _ => 0))), (q3, .inl (ca 3, 100, .inl (fun _ => 0))), (q4, .inl (ca 1, 200, .inl (fun _ => 0)))] := hD
  refine lv_aload_n hx hb dd_Checker_init_50 rfl (lv_at hl 0 rfl) ?_
  refine lv_aload_n hx hb dd_Checker_init_51 rfl (lv_at hl 1 rfl) ?_
  refine va_get (D := D) (ci := 6) (v := .ref m2) (C := kc_Mod) (T := kf_Mod) (N := 12) hx hb hts ki_Mod hown hK hP 1 rfl rfl 2 (by decide) (hts _ (xk_c1 (w := Cond.fieldLink "ModuleHouse$Checker" 38 "ModuleHouse$ReadModule" "code" "LModuleHouse$Code;") 194 rfl rfl)) (fun _ h => h) rfl dd_Checker_init_52 ?_
  refine va_putF (D := D) (ci := 1) (v := .ref m2) (ty := .object "ModuleHouse$Code") (C := kc_Checker) (T := kf_Checker) (N := 11) hx hb hts ki_Checker kt_Checker ko_Checker kn_Checker hown hK hP hD hS 0 rfl rfl 2 (by decide) (hts _ (xk_c2 (w := Cond.fieldLink "ModuleHouse$Checker" 42 "ModuleHouse$Checker" "code" "LModuleHouse$Code;") 49 rfl rfl)) (fun _ h => h) rfl hin rfl (by decide +kernel) rfl rfl (Nat.le_of_ble_eq_true rfl) dd_Checker_init_55 (fun H locs hP hD hS => ?_)
  have hP : va_P D kx_cl [(h0, .inr (1, [.ref md, .ref m1, .ref m2, .ref q1, .ref q2, .ref q3, .ref q4, .int 0, .int 0, .int 0, .int 0])), (md, .inr (6, [.ref m0, .ref m1, .ref m2, .ref m3, .ref m4, .ref m5, .ref m6, .ref m7, .ref m8, .ref m9, .int 0, .int 0])), (q1, .inl (ca 1, 100, .inl (fun _ => 0))), (q2, .inl (ca 1, 100, .inl (fun _ => 0))), (q3, .inl (ca 3, 100, .inl (fun _ => 0))), (q4, .inl (ca 1, 200, .inl (fun _ => 0)))] H := hP
  have hD : va_D A [(h0, .inr (1, [.ref md, .ref m1, .ref m2, .ref q1, .ref q2, .ref q3, .ref q4, .int 0, .int 0, .int 0, .int 0])), (md, .inr (6, [.ref m0, .ref m1, .ref m2, .ref m3, .ref m4, .ref m5, .ref m6, .ref m7, .ref m8, .ref m9, .int 0, .int 0])), (q1, .inl (ca 1, 100, .inl (fun _ => 0))), (q2, .inl (ca 1, 100, .inl (fun _ => 0))), (q3, .inl (ca 3, 100, .inl (fun _ => 0))), (q4, .inl (ca 1, 200, .inl (fun _ => 0)))] := hD
  have hP9 := hP.sub (ws' := [(h0, .inr (1, [.ref md, .ref m1, .ref m2, .ref q1, .ref q2, .ref q3, .ref q4, .int 0, .int 0, .int 0, .int 0])), (md, .inr (6, [.ref m0, .ref m1, .ref m2, .ref m3, .ref m4, .ref m5, .ref m6, .ref m7, .ref m8, .ref m9, .int 0, .int 0])), (q1, .inl (ca 1, 100, .inl (fun _ => 0))), (q2, .inl (ca 1, 100, .inl (fun _ => 0))), (q3, .inl (ca 3, 100, .inl (fun _ => 0))), (q4, .inl (ca 1, 200, .inl (fun _ => 0)))]) [0, 1, 2, 3, 4, 5] rfl
  have hD9 := hD.sub (ws' := [(h0, .inr (1, [.ref md, .ref m1, .ref m2, .ref q1, .ref q2, .ref q3, .ref q4, .int 0, .int 0, .int 0, .int 0])), (md, .inr (6, [.ref m0, .ref m1, .ref m2, .ref m3, .ref m4, .ref m5, .ref m6, .ref m7, .ref m8, .ref m9, .int 0, .int 0])), (q1, .inl (ca 1, 100, .inl (fun _ => 0))), (q2, .inl (ca 1, 100, .inl (fun _ => 0))), (q3, .inl (ca 3, 100, .inl (fun _ => 0))), (q4, .inl (ca 1, 200, .inl (fun _ => 0)))]) [0, 1, 2, 3, 4, 5] (by decide) rfl
  exact W.vret hx hb hr (fun t ht hW => ⟨⟨(), rfl, trivial, q1, q2, q3, q4, by rw [ht]; exact hP9, hD9⟩, hS.F ht⟩) hS.2.2 dd_Checker_init_58 hlocks
set_option maxHeartbeats 8000000 in
set_option maxRecDepth 100000 in
theorem cc_Values_18000 {l : Launch} (D : va_G) (ca : Nat → ClassId) (h0 : Nat) (sz : Nat) : Met l ⟨"ModuleHouse$Values", "<init>", "(I)V"⟩ (Cond.code ⟨"ModuleHouse$Values", "<init>", "(I)V"⟩ prog_12_method_1_code 2 none :: xk_gd) { frames := 1, cells := 2, slots := 36000, locals := 14 } (va_Pc [.ref h0, .int 18000] (fun U => U.heap.size = sz ∧ va_P D kx_cl [(h0, .inr (10, [.null, .null, .int 0]))] U.heap ∧ va_K D kx_cl (kx_ty ca) U ∧ va_D (fun _ => True) [(h0, .inr (10, [.null, .null, .int 0]))] ∧ xk_Nw U)) (va_Qv (fun _ : Unit => True) (fun _ t => ∃ q1 q2 : Nat, va_P D kx_cl [(h0, .inr (10, [.ref q1, .ref q2, .int 0])), (q1, .inl (ca 2, 18000, .inr (.inl (fun _ => 0)))), (q2, .inl (ca 3, 18000, .inl (fun _ => 0)))] t.heap ∧ va_D (va_A [(h0, .inr (10, [.null, .null, .int 0]))] sz) [(h0, .inr (10, [.ref q1, .ref q2, .int 0])), (q1, .inl (ca 2, 18000, .inr (.inl (fun _ => 0)))), (q2, .inl (ca 3, 18000, .inl (fun _ => 0)))]) (va_A [(h0, .inr (10, [.null, .null, .int 0]))] sz)) 2 36000 (va_A [(h0, .inr (10, [.null, .null, .int 0]))] sz) := by
  refine Met.ofW (cc := prog_12_method_1_code) (maxL := 2) (ret := none) (by decide) rfl ?_
  intro p e s m args below meth c s₁ B hml hv
  obtain ⟨rfl, hsz, hP, hK, hD0, hN⟩ := hv
  have hx := B.exec
  have hb := B.bytes
  have hr := B.returns
  have hts : ∀ w ∈ xk_gd, w.before [.ref h0, .int 18000].toArray s = true := fun w hw => atoms_spec (ws := Cond.code ⟨"ModuleHouse$Values", "<init>", "(I)V"⟩ prog_12_method_1_code 2 none :: xk_gd) B.pre w (List.mem_cons_of_mem _ hw)
  have hown : s.vm.findClass "ModuleHouse$Values" = some m.cls := findClass_of_methodNamed B.named
  have hlocks := B.notSynchronized
  have hin : meth.name = "<init>" := (name_of_methodNamed B.named B.method).1
  subst hsz
  have hD := hD0.self (sz := s.heap.size)
  generalize hAe : va_A [(h0, .inr (10, [.null, .null, .int 0]))] s.heap.size = A at hD ⊢
  have hA : ∀ q : Nat, s.heap.size ≤ q → A q := fun q h => by rw [← hAe]; exact Or.inr h
  have hS : va_S A s.heap s.heap [] := va_S.rf
  have hl := lv_entry [.ref h0, .int 18000] (n := 2) (Nat.le_of_ble_eq_true rfl)
  rw [lg_entry_eq]
  generalize (lg_sl [.ref h0, .int 18000] ++ List.replicate (2 - (lg_sl [.ref h0, .int 18000]).length) Slot.unset).toArray = ls at hl ⊢
  have hl : lv_has ls 2 [(0, .ref h0), (1, .int 18000)] := hl
  refine lv_aload_n hx hb dd_Values_init_0 rfl (lv_at hl 0 rfl) ?_
  refine W.objInit hx hb hown (hts _ (xk_c2 (w := Cond.methodLink "ModuleHouse$Values" 1 Lib.objectInit) 93 rfl rfl)) (hts _ (xk_c1 (w := Cond.instanceMethod Lib.objectInit) 39 rfl rfl)) (hts _ (xk_c1 (w := Cond.code Lib.objectInit ⟨#[0xb1]⟩ 1 none) 40 rfl rfl)) rfl (by rw [hml]; exact hl.1) rfl dd_Values_init_1 (Nat.le_of_ble_eq_true rfl) (Nat.le_of_ble_eq_true rfl) ?_
  refine W.eq (g2 := F0 m 4 ls []) rfl ?_
  refine lv_aload_n hx hb dd_Values_init_4 rfl (lv_at hl 0 rfl) ?_
  refine lv_iload_n hx hb dd_Values_init_5 rfl (lv_at hl 1 rfl) ?_
  refine xk_newa (atype := .long) (ty := .long) (cA := ca 2) (a0 := (18000, .inr (.inl (fun _ => 0)))) (N' := 18000) hx hb (hts _ (xk_c1 (w := Cond.arrayClass .long) 87 rfl rfl)) rfl hK 2 rfl (by intro C h; cases h) hP hD hS hA (fun cA => vp_cell_l cA _ _) (by decide) (by decide) (by decide) (Nat.le_of_ble_eq_true rfl) (Nat.le_of_ble_eq_true rfl) dd_Values_init_6 (fun q1 H hP hD hS => ?_)
  have hP : va_P D kx_cl [(h0, .inr (10, [.null, .null, .int 0])), (q1, .inl (ca 2, 18000, .inr (.inl (fun _ => 0))))] H := hP
  have hD : va_D A [(h0, .inr (10, [.null, .null, .int 0])), (q1, .inl (ca 2, 18000, .inr (.inl (fun _ => 0))))] := hD
  refine W.widen (k := 1) (n := 18000) (by omega) (by omega) ?_
  refine va_putF (D := D) (ci := 10) (v := .ref q1) (ty := .array .long) (C := kc_Values) (T := kf_Values) (N := 3) hx hb hts ki_Values kt_Values ko_Values kn_Values hown hK hP hD hS 0 rfl rfl 0 (by decide) (hts _ (xk_c2 (w := Cond.fieldLink "ModuleHouse$Values" 7 "ModuleHouse$Values" "value" "[J") 94 rfl rfl)) (fun _ h => h) rfl hin rfl (by decide +kernel) rfl rfl (Nat.le_of_ble_eq_true rfl) dd_Values_init_8 (fun H locs hP hD hS => ?_)
  have hP : va_P D kx_cl [(h0, .inr (10, [.ref q1, .null, .int 0])), (q1, .inl (ca 2, 18000, .inr (.inl (fun _ => 0))))] H := hP
  have hD : va_D A [(h0, .inr (10, [.ref q1, .null, .int 0])), (q1, .inl (ca 2, 18000, .inr (.inl (fun _ => 0))))] := hD
  refine lv_aload_n hx hb dd_Values_init_11 rfl (lv_at hl 0 rfl) ?_
  refine lv_iload_n hx hb dd_Values_init_12 rfl (lv_at hl 1 rfl) ?_
  refine xk_newa (atype := .boolean) (ty := .boolean) (cA := ca 3) (a0 := (18000, .inl (fun _ => 0))) (N' := 18000) hx hb (hts _ (xk_c2 (w := Cond.arrayClass .boolean) 81 rfl rfl)) rfl hK 3 rfl (by intro C h; cases h) hP hD hS hA (fun cA => vp_cell_i cA _ _) (by decide) (by decide) (by decide) (Nat.le_of_ble_eq_true rfl) (Nat.le_of_ble_eq_true rfl) dd_Values_init_13 (fun q2 H hP hD hS => ?_)
  have hP : va_P D kx_cl [(h0, .inr (10, [.ref q1, .null, .int 0])), (q1, .inl (ca 2, 18000, .inr (.inl (fun _ => 0)))), (q2, .inl (ca 3, 18000, .inl (fun _ => 0)))] H := hP
  have hD : va_D A [(h0, .inr (10, [.ref q1, .null, .int 0])), (q1, .inl (ca 2, 18000, .inr (.inl (fun _ => 0)))), (q2, .inl (ca 3, 18000, .inl (fun _ => 0)))] := hD
  refine W.widen (k := 2) (n := 36000) (by omega) (by omega) ?_
  refine va_putF (D := D) (ci := 10) (v := .ref q2) (ty := .array .boolean) (C := kc_Values) (T := kf_Values) (N := 3) hx hb hts ki_Values kt_Values ko_Values kn_Values hown hK hP hD hS 0 rfl rfl 1 (by decide) (hts _ (xk_c2 (w := Cond.fieldLink "ModuleHouse$Values" 13 "ModuleHouse$Values" "refers" "[Z") 98 rfl rfl)) (fun _ h => h) rfl hin rfl (by decide +kernel) rfl rfl (Nat.le_of_ble_eq_true rfl) dd_Values_init_15 (fun H locs hP hD hS => ?_)
  have hP : va_P D kx_cl [(h0, .inr (10, [.ref q1, .ref q2, .int 0])), (q1, .inl (ca 2, 18000, .inr (.inl (fun _ => 0)))), (q2, .inl (ca 3, 18000, .inl (fun _ => 0)))] H := hP
  have hD : va_D A [(h0, .inr (10, [.ref q1, .ref q2, .int 0])), (q1, .inl (ca 2, 18000, .inr (.inl (fun _ => 0)))), (q2, .inl (ca 3, 18000, .inl (fun _ => 0)))] := hD
  have hP9 := hP.sub (ws' := [(h0, .inr (10, [.ref q1, .ref q2, .int 0])), (q1, .inl (ca 2, 18000, .inr (.inl (fun _ => 0)))), (q2, .inl (ca 3, 18000, .inl (fun _ => 0)))]) [0, 1, 2] rfl
  have hD9 := hD.sub (ws' := [(h0, .inr (10, [.ref q1, .ref q2, .int 0])), (q1, .inl (ca 2, 18000, .inr (.inl (fun _ => 0)))), (q2, .inl (ca 3, 18000, .inl (fun _ => 0)))]) [0, 1, 2] (by decide) rfl
  exact W.vret hx hb hr (fun t ht hW => ⟨⟨(), rfl, trivial, q1, q2, by rw [ht]; exact hP9, hD9⟩, hS.F ht⟩) hS.2.2 dd_Values_init_18 hlocks
set_option maxHeartbeats 8000000 in
set_option maxRecDepth 100000 in
theorem cc_Values_64 {l : Launch} (D : va_G) (ca : Nat → ClassId) (h0 : Nat) (sz : Nat) : Met l ⟨"ModuleHouse$Values", "<init>", "(I)V"⟩ (Cond.code ⟨"ModuleHouse$Values", "<init>", "(I)V"⟩ prog_12_method_1_code 2 none :: xk_gd) { frames := 1, cells := 2, slots := 128, locals := 14 } (va_Pc [.ref h0, .int 64] (fun U => U.heap.size = sz ∧ va_P D kx_cl [(h0, .inr (10, [.null, .null, .int 0]))] U.heap ∧ va_K D kx_cl (kx_ty ca) U ∧ va_D (fun _ => True) [(h0, .inr (10, [.null, .null, .int 0]))] ∧ xk_Nw U)) (va_Qv (fun _ : Unit => True) (fun _ t => ∃ q1 q2 : Nat, va_P D kx_cl [(h0, .inr (10, [.ref q1, .ref q2, .int 0])), (q1, .inl (ca 2, 64, .inr (.inl (fun _ => 0)))), (q2, .inl (ca 3, 64, .inl (fun _ => 0)))] t.heap ∧ va_D (va_A [(h0, .inr (10, [.null, .null, .int 0]))] sz) [(h0, .inr (10, [.ref q1, .ref q2, .int 0])), (q1, .inl (ca 2, 64, .inr (.inl (fun _ => 0)))), (q2, .inl (ca 3, 64, .inl (fun _ => 0)))]) (va_A [(h0, .inr (10, [.null, .null, .int 0]))] sz)) 2 128 (va_A [(h0, .inr (10, [.null, .null, .int 0]))] sz) := by
  refine Met.ofW (cc := prog_12_method_1_code) (maxL := 2) (ret := none) (by decide) rfl ?_
  intro p e s m args below meth c s₁ B hml hv
  obtain ⟨rfl, hsz, hP, hK, hD0, hN⟩ := hv
  have hx := B.exec
  have hb := B.bytes
  have hr := B.returns
  have hts : ∀ w ∈ xk_gd, w.before [.ref h0, .int 64].toArray s = true := fun w hw => atoms_spec (ws := Cond.code ⟨"ModuleHouse$Values", "<init>", "(I)V"⟩ prog_12_method_1_code 2 none :: xk_gd) B.pre w (List.mem_cons_of_mem _ hw)
  have hown : s.vm.findClass "ModuleHouse$Values" = some m.cls := findClass_of_methodNamed B.named
  have hlocks := B.notSynchronized
  have hin : meth.name = "<init>" := (name_of_methodNamed B.named B.method).1
  subst hsz
  have hD := hD0.self (sz := s.heap.size)
  generalize hAe : va_A [(h0, .inr (10, [.null, .null, .int 0]))] s.heap.size = A at hD ⊢
  have hA : ∀ q : Nat, s.heap.size ≤ q → A q := fun q h => by rw [← hAe]; exact Or.inr h
  have hS : va_S A s.heap s.heap [] := va_S.rf
  have hl := lv_entry [.ref h0, .int 64] (n := 2) (Nat.le_of_ble_eq_true rfl)
  rw [lg_entry_eq]
  generalize (lg_sl [.ref h0, .int 64] ++ List.replicate (2 - (lg_sl [.ref h0, .int 64]).length) Slot.unset).toArray = ls at hl ⊢
  have hl : lv_has ls 2 [(0, .ref h0), (1, .int 64)] := hl
  refine lv_aload_n hx hb dd_Values_init_0 rfl (lv_at hl 0 rfl) ?_
  refine W.objInit hx hb hown (hts _ (xk_c2 (w := Cond.methodLink "ModuleHouse$Values" 1 Lib.objectInit) 93 rfl rfl)) (hts _ (xk_c1 (w := Cond.instanceMethod Lib.objectInit) 39 rfl rfl)) (hts _ (xk_c1 (w := Cond.code Lib.objectInit ⟨#[0xb1]⟩ 1 none) 40 rfl rfl)) rfl (by rw [hml]; exact hl.1) rfl dd_Values_init_1 (Nat.le_of_ble_eq_true rfl) (Nat.le_of_ble_eq_true rfl) ?_
  refine W.eq (g2 := F0 m 4 ls []) rfl ?_
  refine lv_aload_n hx hb dd_Values_init_4 rfl (lv_at hl 0 rfl) ?_
  refine lv_iload_n hx hb dd_Values_init_5 rfl (lv_at hl 1 rfl) ?_
  refine xk_newa (atype := .long) (ty := .long) (cA := ca 2) (a0 := (64, .inr (.inl (fun _ => 0)))) (N' := 64) hx hb (hts _ (xk_c1 (w := Cond.arrayClass .long) 87 rfl rfl)) rfl hK 2 rfl (by intro C h; cases h) hP hD hS hA (fun cA => vp_cell_l cA _ _) (by decide) (by decide) (by decide) (Nat.le_of_ble_eq_true rfl) (Nat.le_of_ble_eq_true rfl) dd_Values_init_6 (fun q1 H hP hD hS => ?_)
  have hP : va_P D kx_cl [(h0, .inr (10, [.null, .null, .int 0])), (q1, .inl (ca 2, 64, .inr (.inl (fun _ => 0))))] H := hP
  have hD : va_D A [(h0, .inr (10, [.null, .null, .int 0])), (q1, .inl (ca 2, 64, .inr (.inl (fun _ => 0))))] := hD
  refine W.widen (k := 1) (n := 64) (by omega) (by omega) ?_
  refine va_putF (D := D) (ci := 10) (v := .ref q1) (ty := .array .long) (C := kc_Values) (T := kf_Values) (N := 3) hx hb hts ki_Values kt_Values ko_Values kn_Values hown hK hP hD hS 0 rfl rfl 0 (by decide) (hts _ (xk_c2 (w := Cond.fieldLink "ModuleHouse$Values" 7 "ModuleHouse$Values" "value" "[J") 94 rfl rfl)) (fun _ h => h) rfl hin rfl (by decide +kernel) rfl rfl (Nat.le_of_ble_eq_true rfl) dd_Values_init_8 (fun H locs hP hD hS => ?_)
  have hP : va_P D kx_cl [(h0, .inr (10, [.ref q1, .null, .int 0])), (q1, .inl (ca 2, 64, .inr (.inl (fun _ => 0))))] H := hP
  have hD : va_D A [(h0, .inr (10, [.ref q1, .null, .int 0])), (q1, .inl (ca 2, 64, .inr (.inl (fun _ => 0))))] := hD
  refine lv_aload_n hx hb dd_Values_init_11 rfl (lv_at hl 0 rfl) ?_
  refine lv_iload_n hx hb dd_Values_init_12 rfl (lv_at hl 1 rfl) ?_
  refine xk_newa (atype := .boolean) (ty := .boolean) (cA := ca 3) (a0 := (64, .inl (fun _ => 0))) (N' := 64) hx hb (hts _ (xk_c2 (w := Cond.arrayClass .boolean) 81 rfl rfl)) rfl hK 3 rfl (by intro C h; cases h) hP hD hS hA (fun cA => vp_cell_i cA _ _) (by decide) (by decide) (by decide) (Nat.le_of_ble_eq_true rfl) (Nat.le_of_ble_eq_true rfl) dd_Values_init_13 (fun q2 H hP hD hS => ?_)
  have hP : va_P D kx_cl [(h0, .inr (10, [.ref q1, .null, .int 0])), (q1, .inl (ca 2, 64, .inr (.inl (fun _ => 0)))), (q2, .inl (ca 3, 64, .inl (fun _ => 0)))] H := hP
  have hD : va_D A [(h0, .inr (10, [.ref q1, .null, .int 0])), (q1, .inl (ca 2, 64, .inr (.inl (fun _ => 0)))), (q2, .inl (ca 3, 64, .inl (fun _ => 0)))] := hD
  refine W.widen (k := 2) (n := 128) (by omega) (by omega) ?_
  refine va_putF (D := D) (ci := 10) (v := .ref q2) (ty := .array .boolean) (C := kc_Values) (T := kf_Values) (N := 3) hx hb hts ki_Values kt_Values ko_Values kn_Values hown hK hP hD hS 0 rfl rfl 1 (by decide) (hts _ (xk_c2 (w := Cond.fieldLink "ModuleHouse$Values" 13 "ModuleHouse$Values" "refers" "[Z") 98 rfl rfl)) (fun _ h => h) rfl hin rfl (by decide +kernel) rfl rfl (Nat.le_of_ble_eq_true rfl) dd_Values_init_15 (fun H locs hP hD hS => ?_)
  have hP : va_P D kx_cl [(h0, .inr (10, [.ref q1, .ref q2, .int 0])), (q1, .inl (ca 2, 64, .inr (.inl (fun _ => 0)))), (q2, .inl (ca 3, 64, .inl (fun _ => 0)))] H := hP
  have hD : va_D A [(h0, .inr (10, [.ref q1, .ref q2, .int 0])), (q1, .inl (ca 2, 64, .inr (.inl (fun _ => 0)))), (q2, .inl (ca 3, 64, .inl (fun _ => 0)))] := hD
  have hP9 := hP.sub (ws' := [(h0, .inr (10, [.ref q1, .ref q2, .int 0])), (q1, .inl (ca 2, 64, .inr (.inl (fun _ => 0)))), (q2, .inl (ca 3, 64, .inl (fun _ => 0)))]) [0, 1, 2] rfl
  have hD9 := hD.sub (ws' := [(h0, .inr (10, [.ref q1, .ref q2, .int 0])), (q1, .inl (ca 2, 64, .inr (.inl (fun _ => 0)))), (q2, .inl (ca 3, 64, .inl (fun _ => 0)))]) [0, 1, 2] (by decide) rfl
  exact W.vret hx hb hr (fun t ht hW => ⟨⟨(), rfl, trivial, q1, q2, by rw [ht]; exact hP9, hD9⟩, hS.F ht⟩) hS.2.2 dd_Values_init_18 hlocks
set_option maxHeartbeats 8000000 in
set_option maxRecDepth 100000 in
theorem cc_Values_2000 {l : Launch} (D : va_G) (ca : Nat → ClassId) (h0 : Nat) (sz : Nat) : Met l ⟨"ModuleHouse$Values", "<init>", "(I)V"⟩ (Cond.code ⟨"ModuleHouse$Values", "<init>", "(I)V"⟩ prog_12_method_1_code 2 none :: xk_gd) { frames := 1, cells := 2, slots := 4000, locals := 14 } (va_Pc [.ref h0, .int 2000] (fun U => U.heap.size = sz ∧ va_P D kx_cl [(h0, .inr (10, [.null, .null, .int 0]))] U.heap ∧ va_K D kx_cl (kx_ty ca) U ∧ va_D (fun _ => True) [(h0, .inr (10, [.null, .null, .int 0]))] ∧ xk_Nw U)) (va_Qv (fun _ : Unit => True) (fun _ t => ∃ q1 q2 : Nat, va_P D kx_cl [(h0, .inr (10, [.ref q1, .ref q2, .int 0])), (q1, .inl (ca 2, 2000, .inr (.inl (fun _ => 0)))), (q2, .inl (ca 3, 2000, .inl (fun _ => 0)))] t.heap ∧ va_D (va_A [(h0, .inr (10, [.null, .null, .int 0]))] sz) [(h0, .inr (10, [.ref q1, .ref q2, .int 0])), (q1, .inl (ca 2, 2000, .inr (.inl (fun _ => 0)))), (q2, .inl (ca 3, 2000, .inl (fun _ => 0)))]) (va_A [(h0, .inr (10, [.null, .null, .int 0]))] sz)) 2 4000 (va_A [(h0, .inr (10, [.null, .null, .int 0]))] sz) := by
  refine Met.ofW (cc := prog_12_method_1_code) (maxL := 2) (ret := none) (by decide) rfl ?_
  intro p e s m args below meth c s₁ B hml hv
  obtain ⟨rfl, hsz, hP, hK, hD0, hN⟩ := hv
  have hx := B.exec
  have hb := B.bytes
  have hr := B.returns
  have hts : ∀ w ∈ xk_gd, w.before [.ref h0, .int 2000].toArray s = true := fun w hw => atoms_spec (ws := Cond.code ⟨"ModuleHouse$Values", "<init>", "(I)V"⟩ prog_12_method_1_code 2 none :: xk_gd) B.pre w (List.mem_cons_of_mem _ hw)
  have hown : s.vm.findClass "ModuleHouse$Values" = some m.cls := findClass_of_methodNamed B.named
  have hlocks := B.notSynchronized
  have hin : meth.name = "<init>" := (name_of_methodNamed B.named B.method).1
  subst hsz
  have hD := hD0.self (sz := s.heap.size)
  generalize hAe : va_A [(h0, .inr (10, [.null, .null, .int 0]))] s.heap.size = A at hD ⊢
  have hA : ∀ q : Nat, s.heap.size ≤ q → A q := fun q h => by rw [← hAe]; exact Or.inr h
  have hS : va_S A s.heap s.heap [] := va_S.rf
  have hl := lv_entry [.ref h0, .int 2000] (n := 2) (Nat.le_of_ble_eq_true rfl)
  rw [lg_entry_eq]
  generalize (lg_sl [.ref h0, .int 2000] ++ List.replicate (2 - (lg_sl [.ref h0, .int 2000]).length) Slot.unset).toArray = ls at hl ⊢
  have hl : lv_has ls 2 [(0, .ref h0), (1, .int 2000)] := hl
  refine lv_aload_n hx hb dd_Values_init_0 rfl (lv_at hl 0 rfl) ?_
  refine W.objInit hx hb hown (hts _ (xk_c2 (w := Cond.methodLink "ModuleHouse$Values" 1 Lib.objectInit) 93 rfl rfl)) (hts _ (xk_c1 (w := Cond.instanceMethod Lib.objectInit) 39 rfl rfl)) (hts _ (xk_c1 (w := Cond.code Lib.objectInit ⟨#[0xb1]⟩ 1 none) 40 rfl rfl)) rfl (by rw [hml]; exact hl.1) rfl dd_Values_init_1 (Nat.le_of_ble_eq_true rfl) (Nat.le_of_ble_eq_true rfl) ?_
  refine W.eq (g2 := F0 m 4 ls []) rfl ?_
  refine lv_aload_n hx hb dd_Values_init_4 rfl (lv_at hl 0 rfl) ?_
  refine lv_iload_n hx hb dd_Values_init_5 rfl (lv_at hl 1 rfl) ?_
  refine xk_newa (atype := .long) (ty := .long) (cA := ca 2) (a0 := (2000, .inr (.inl (fun _ => 0)))) (N' := 2000) hx hb (hts _ (xk_c1 (w := Cond.arrayClass .long) 87 rfl rfl)) rfl hK 2 rfl (by intro C h; cases h) hP hD hS hA (fun cA => vp_cell_l cA _ _) (by decide) (by decide) (by decide) (Nat.le_of_ble_eq_true rfl) (Nat.le_of_ble_eq_true rfl) dd_Values_init_6 (fun q1 H hP hD hS => ?_)
  have hP : va_P D kx_cl [(h0, .inr (10, [.null, .null, .int 0])), (q1, .inl (ca 2, 2000, .inr (.inl (fun _ => 0))))] H := hP
  have hD : va_D A [(h0, .inr (10, [.null, .null, .int 0])), (q1, .inl (ca 2, 2000, .inr (.inl (fun _ => 0))))] := hD
  refine W.widen (k := 1) (n := 2000) (by omega) (by omega) ?_
  refine va_putF (D := D) (ci := 10) (v := .ref q1) (ty := .array .long) (C := kc_Values) (T := kf_Values) (N := 3) hx hb hts ki_Values kt_Values ko_Values kn_Values hown hK hP hD hS 0 rfl rfl 0 (by decide) (hts _ (xk_c2 (w := Cond.fieldLink "ModuleHouse$Values" 7 "ModuleHouse$Values" "value" "[J") 94 rfl rfl)) (fun _ h => h) rfl hin rfl (by decide +kernel) rfl rfl (Nat.le_of_ble_eq_true rfl) dd_Values_init_8 (fun H locs hP hD hS => ?_)
  have hP : va_P D kx_cl [(h0, .inr (10, [.ref q1, .null, .int 0])), (q1, .inl (ca 2, 2000, .inr (.inl (fun _ => 0))))] H := hP
  have hD : va_D A [(h0, .inr (10, [.ref q1, .null, .int 0])), (q1, .inl (ca 2, 2000, .inr (.inl (fun _ => 0))))] := hD
  refine lv_aload_n hx hb dd_Values_init_11 rfl (lv_at hl 0 rfl) ?_
  refine lv_iload_n hx hb dd_Values_init_12 rfl (lv_at hl 1 rfl) ?_
  refine xk_newa (atype := .boolean) (ty := .boolean) (cA := ca 3) (a0 := (2000, .inl (fun _ => 0))) (N' := 2000) hx hb (hts _ (xk_c2 (w := Cond.arrayClass .boolean) 81 rfl rfl)) rfl hK 3 rfl (by intro C h; cases h) hP hD hS hA (fun cA => vp_cell_i cA _ _) (by decide) (by decide) (by decide) (Nat.le_of_ble_eq_true rfl) (Nat.le_of_ble_eq_true rfl) dd_Values_init_13 (fun q2 H hP hD hS => ?_)
  have hP : va_P D kx_cl [(h0, .inr (10, [.ref q1, .null, .int 0])), (q1, .inl (ca 2, 2000, .inr (.inl (fun _ => 0)))), (q2, .inl (ca 3, 2000, .inl (fun _ => 0)))] H := hP
  have hD : va_D A [(h0, .inr (10, [.ref q1, .null, .int 0])), (q1, .inl (ca 2, 2000, .inr (.inl (fun _ => 0)))), (q2, .inl (ca 3, 2000, .inl (fun _ => 0)))] := hD
  refine W.widen (k := 2) (n := 4000) (by omega) (by omega) ?_
  refine va_putF (D := D) (ci := 10) (v := .ref q2) (ty := .array .boolean) (C := kc_Values) (T := kf_Values) (N := 3) hx hb hts ki_Values kt_Values ko_Values kn_Values hown hK hP hD hS 0 rfl rfl 1 (by decide) (hts _ (xk_c2 (w := Cond.fieldLink "ModuleHouse$Values" 13 "ModuleHouse$Values" "refers" "[Z") 98 rfl rfl)) (fun _ h => h) rfl hin rfl (by decide +kernel) rfl rfl (Nat.le_of_ble_eq_true rfl) dd_Values_init_15 (fun H locs hP hD hS => ?_)
  have hP : va_P D kx_cl [(h0, .inr (10, [.ref q1, .ref q2, .int 0])), (q1, .inl (ca 2, 2000, .inr (.inl (fun _ => 0)))), (q2, .inl (ca 3, 2000, .inl (fun _ => 0)))] H := hP
  have hD : va_D A [(h0, .inr (10, [.ref q1, .ref q2, .int 0])), (q1, .inl (ca 2, 2000, .inr (.inl (fun _ => 0)))), (q2, .inl (ca 3, 2000, .inl (fun _ => 0)))] := hD
  have hP9 := hP.sub (ws' := [(h0, .inr (10, [.ref q1, .ref q2, .int 0])), (q1, .inl (ca 2, 2000, .inr (.inl (fun _ => 0)))), (q2, .inl (ca 3, 2000, .inl (fun _ => 0)))]) [0, 1, 2] rfl
  have hD9 := hD.sub (ws' := [(h0, .inr (10, [.ref q1, .ref q2, .int 0])), (q1, .inl (ca 2, 2000, .inr (.inl (fun _ => 0)))), (q2, .inl (ca 3, 2000, .inl (fun _ => 0)))]) [0, 1, 2] (by decide) rfl
  exact W.vret hx hb hr (fun t ht hW => ⟨⟨(), rfl, trivial, q1, q2, by rw [ht]; exact hP9, hD9⟩, hS.F ht⟩) hS.2.2 dd_Values_init_18 hlocks
set_option maxHeartbeats 8000000 in
set_option maxRecDepth 100000 in
theorem cc_Heap {l : Launch} (D : va_G) (ca : Nat → ClassId) (h0 : Nat) (sz : Nat) : Met l ⟨"ModuleHouse$Heap", "<init>", "()V"⟩ (Cond.code ⟨"ModuleHouse$Heap", "<init>", "()V"⟩ prog_4_method_1_code 1 none :: xk_gd) { frames := 2, cells := 9, slots := 16007, locals := 35 } (va_Pc [.ref h0] (fun U => U.heap.size = sz ∧ va_P D kx_cl [(h0, .inr (3, [.null, .null, .null, .null, .null, .null, .null, .int 0, .int 0]))] U.heap ∧ va_K D kx_cl (kx_ty ca) U ∧ va_D (fun _ => True) [(h0, .inr (3, [.null, .null, .null, .null, .null, .null, .null, .int 0, .int 0]))] ∧ xk_Nw U)) (va_Qv (fun _ : Unit => True) (fun _ t => ∃ q1 q2 q3 q4 q5 q6 q7 q8 q9 : Nat, va_P D kx_cl [(h0, .inr (3, [.ref q1, .ref q4, .ref q5, .ref q6, .ref q7, .ref q8, .ref q9, .int 0, .int 0])), (q1, .inr (10, [.ref q2, .ref q3, .int 0])), (q2, .inl (ca 2, 2000, .inr (.inl (fun _ => 0)))), (q3, .inl (ca 3, 2000, .inl (fun _ => 0))), (q4, .inl (ca 1, 2001, .inl (fun _ => 0))), (q5, .inl (ca 1, 2001, .inl (fun _ => 0))), (q6, .inl (ca 1, 2001, .inl (fun _ => 0))), (q7, .inl (ca 3, 2001, .inl (fun _ => 0))), (q8, .inl (ca 1, 2000, .inl (fun _ => 0))), (q9, .inl (ca 1, 2000, .inl (fun _ => 0)))] t.heap ∧ va_D (va_A [(h0, .inr (3, [.null, .null, .null, .null, .null, .null, .null, .int 0, .int 0]))] sz) [(h0, .inr (3, [.ref q1, .ref q4, .ref q5, .ref q6, .ref q7, .ref q8, .ref q9, .int 0, .int 0])), (q1, .inr (10, [.ref q2, .ref q3, .int 0])), (q2, .inl (ca 2, 2000, .inr (.inl (fun _ => 0)))), (q3, .inl (ca 3, 2000, .inl (fun _ => 0))), (q4, .inl (ca 1, 2001, .inl (fun _ => 0))), (q5, .inl (ca 1, 2001, .inl (fun _ => 0))), (q6, .inl (ca 1, 2001, .inl (fun _ => 0))), (q7, .inl (ca 3, 2001, .inl (fun _ => 0))), (q8, .inl (ca 1, 2000, .inl (fun _ => 0))), (q9, .inl (ca 1, 2000, .inl (fun _ => 0)))]) (va_A [(h0, .inr (3, [.null, .null, .null, .null, .null, .null, .null, .int 0, .int 0]))] sz)) 9 16007 (va_A [(h0, .inr (3, [.null, .null, .null, .null, .null, .null, .null, .int 0, .int 0]))] sz) := by
  refine Met.ofW (cc := prog_4_method_1_code) (maxL := 1) (ret := none) (by decide) rfl ?_
  intro p e s m args below meth c s₁ B hml hv
  obtain ⟨rfl, hsz, hP, hK, hD0, hN⟩ := hv
  have hx := B.exec
  have hb := B.bytes
  have hr := B.returns
  have hts : ∀ w ∈ xk_gd, w.before [.ref h0].toArray s = true := fun w hw => atoms_spec (ws := Cond.code ⟨"ModuleHouse$Heap", "<init>", "()V"⟩ prog_4_method_1_code 1 none :: xk_gd) B.pre w (List.mem_cons_of_mem _ hw)
  have hown : s.vm.findClass "ModuleHouse$Heap" = some m.cls := findClass_of_methodNamed B.named
  have hlocks := B.notSynchronized
  have hin : meth.name = "<init>" := (name_of_methodNamed B.named B.method).1
  subst hsz
  have hD := hD0.self (sz := s.heap.size)
  generalize hAe : va_A [(h0, .inr (3, [.null, .null, .null, .null, .null, .null, .null, .int 0, .int 0]))] s.heap.size = A at hD ⊢
  have hA : ∀ q : Nat, s.heap.size ≤ q → A q := fun q h => by rw [← hAe]; exact Or.inr h
  have hS : va_S A s.heap s.heap [] := va_S.rf
  have hl := lv_entry [.ref h0] (n := 1) (Nat.le_of_ble_eq_true rfl)
  rw [lg_entry_eq]
  generalize (lg_sl [.ref h0] ++ List.replicate (1 - (lg_sl [.ref h0]).length) Slot.unset).toArray = ls at hl ⊢
  have hl : lv_has ls 1 [(0, .ref h0)] := hl
  refine lv_aload_n hx hb dd_Heap_init_0 rfl (lv_at hl 0 rfl) ?_
  refine W.objInit hx hb hown (hts _ (xk_c2 (w := Cond.methodLink "ModuleHouse$Heap" 3 Lib.objectInit) 117 rfl rfl)) (hts _ (xk_c1 (w := Cond.instanceMethod Lib.objectInit) 39 rfl rfl)) (hts _ (xk_c1 (w := Cond.code Lib.objectInit ⟨#[0xb1]⟩ 1 none) 40 rfl rfl)) rfl (by rw [hml]; exact hl.1) rfl dd_Heap_init_1 (Nat.le_of_ble_eq_true rfl) (Nat.le_of_ble_eq_true rfl) ?_
  refine W.eq (g2 := F0 m 4 ls []) rfl ?_
  refine lv_aload_n hx hb dd_Heap_init_4 rfl (lv_at hl 0 rfl) ?_
  refine va_new (ci := 10) (fs := [.null, .null, .int 0]) (C := kc_Values) (T := kf_Values) (N := 3) hx hb hts ki_Values kt_Values ko_Values hown (hts _ (xk_c2 (w := Cond.classLink "ModuleHouse$Heap" 9 "ModuleHouse$Values") 118 rfl rfl)) (hts _ (xk_c2 (w := Cond.instantiable "ModuleHouse$Values" 3) 89 rfl rfl)) (hts _ (xk_c1 (w := Cond.initialized "ModuleHouse$Values") 9 rfl rfl)) hK hP hD hS hA rfl (by decide +kernel) (Nat.le_of_ble_eq_true rfl) (Nat.le_of_ble_eq_true rfl) dd_Heap_init_5 (fun q1 H hP hD hS => ?_)
  have hP : va_P D kx_cl [(h0, .inr (3, [.null, .null, .null, .null, .null, .null, .null, .int 0, .int 0])), (q1, .inr (10, [.null, .null, .int 0]))] H := hP
  have hD : va_D A [(h0, .inr (3, [.null, .null, .null, .null, .null, .null, .null, .int 0, .int 0])), (q1, .inr (10, [.null, .null, .int 0]))] := hD
  refine W.widen (k := 1) (n := 3) (by omega) (by omega) ?_
  refine lv_dup hx hb dd_Heap_init_8 rfl ?_
  refine lv_sipush (v := 2000) hx hb dd_Heap_init_9 (by decide) ?_
  have hPc := hP.sub (ws' := [(q1, .inr (10, [.null, .null, .int 0]))]) [1] rfl
  have hDc := hD.sub (ws' := [(q1, .inr (10, [.null, .null, .int 0]))]) [1] (by decide) rfl
  have hFc := va_free (wc := [(q1, .inr (10, [.null, .null, .int 0]))]) hD hS hA [1] rfl
  refine va_callv (va_runI (As := [.int 2000]) (rest := [.ref q1, .ref h0]) ⟨hx, hb, hml, hown, hts⟩ (cc_Values_2000 D ca q1 H.size) (cwI 1 hts (xk_good (xk_c2 (w := Cond.code ⟨"ModuleHouse$Values", "<init>", "(I)V"⟩ prog_12_method_1_code 2 none) 92 rfl rfl)) rfl rfl rfl (hts _ (xk_c1 (w := Cond.initialized "ModuleHouse$Values") 9 rfl rfl)) (hts _ (xk_c2 (w := Cond.methodLink "ModuleHouse$Heap" 11 ⟨"ModuleHouse$Values", "<init>", "(I)V"⟩) 119 rfl rfl)) (hts _ (xk_c2 (w := Cond.instanceMethod ⟨"ModuleHouse$Values", "<init>", "(I)V"⟩) 91 rfl rfl)) rfl (by decide +kernel) ⟨Nat.le_of_ble_eq_true rfl, Nat.le_of_ble_eq_true rfl⟩) ⟨xk_nblind, fun U hU hW => ⟨rfl, by rw [hU], by rw [hU]; exact hPc, va_K.moved hW.alike hK, hDc.weaken (fun _ _ _ _ => trivial), xk_Nw.go hN hW⟩⟩ rfl rfl hl.1 rfl (lv_room (Nat.le_of_ble_eq_true rfl)) dd_Heap_init_12 ⟨Nat.le_of_ble_eq_true rfl, Nat.le_of_ble_eq_true rfl⟩) hS (fun q _ h => hFc q h) hFc (fun _ t H1 locs ht hvm hw hB hz1 hk1 hS => ?_)
  obtain ⟨q2, q3, hP1, hD1⟩ := hB
  rw [ht] at hP1
  obtain ⟨hP, hD⟩ := va_join (wr := [(h0, .inr (3, [.null, .null, .null, .null, .null, .null, .null, .int 0, .int 0]))]) (w1 := [(q1, .inr (10, [.ref q2, .ref q3, .int 0])), (q2, .inl (ca 2, 2000, .inr (.inl (fun _ => 0)))), (q3, .inl (ca 3, 2000, .inl (fun _ => 0)))]) hP hD [1] [0] rfl rfl (by decide) (by decide) hk1 hFc hP1 hD1
  generalize H1 = H at hP hS ⊢
  have hP : va_P D kx_cl [(h0, .inr (3, [.null, .null, .null, .null, .null, .null, .null, .int 0, .int 0])), (q1, .inr (10, [.ref q2, .ref q3, .int 0])), (q2, .inl (ca 2, 2000, .inr (.inl (fun _ => 0)))), (q3, .inl (ca 3, 2000, .inl (fun _ => 0)))] H := hP
  have hD : va_D A [(h0, .inr (3, [.null, .null, .null, .null, .null, .null, .null, .int 0, .int 0])), (q1, .inr (10, [.ref q2, .ref q3, .int 0])), (q2, .inl (ca 2, 2000, .inr (.inl (fun _ => 0)))), (q3, .inl (ca 3, 2000, .inl (fun _ => 0)))] := hD
  refine W.widen (k := 3) (n := 4003) (by omega) (by omega) ?_
  refine va_putF (D := D) (ci := 3) (v := .ref q1) (ty := .object "ModuleHouse$Values") (C := kc_Heap) (T := kf_Heap) (N := 9) hx hb hts ki_Heap kt_Heap ko_Heap kn_Heap hown hK hP hD hS 0 rfl rfl 0 (by decide) (hts _ (xk_c2 (w := Cond.fieldLink "ModuleHouse$Heap" 14 "ModuleHouse$Heap" "cells" "LModuleHouse$Values;") 120 rfl rfl)) (fun _ h => h) rfl hin rfl (by decide +kernel) rfl rfl (Nat.le_of_ble_eq_true rfl) dd_Heap_init_15 (fun H locs hP hD hS => ?_)
  have hP : va_P D kx_cl [(h0, .inr (3, [.ref q1, .null, .null, .null, .null, .null, .null, .int 0, .int 0])), (q1, .inr (10, [.ref q2, .ref q3, .int 0])), (q2, .inl (ca 2, 2000, .inr (.inl (fun _ => 0)))), (q3, .inl (ca 3, 2000, .inl (fun _ => 0)))] H := hP
  have hD : va_D A [(h0, .inr (3, [.ref q1, .null, .null, .null, .null, .null, .null, .int 0, .int 0])), (q1, .inr (10, [.ref q2, .ref q3, .int 0])), (q2, .inl (ca 2, 2000, .inr (.inl (fun _ => 0)))), (q3, .inl (ca 3, 2000, .inl (fun _ => 0)))] := hD
  refine lv_aload_n hx hb dd_Heap_init_18 rfl (lv_at hl 0 rfl) ?_
  refine lv_sipush (v := 2001) hx hb dd_Heap_init_19 (by decide) ?_
  refine xk_newa (atype := .int) (ty := .int) (cA := ca 1) (a0 := (2001, .inl (fun _ => 0))) (N' := 2001) hx hb (hts _ (xk_c1 (w := Cond.arrayClass .int) 88 rfl rfl)) rfl hK 1 rfl (by intro C h; cases h) hP hD hS hA (fun cA => vp_cell_i cA _ _) (by decide) (by decide) (by decide) (Nat.le_of_ble_eq_true rfl) (Nat.le_of_ble_eq_true rfl) dd_Heap_init_22 (fun q4 H hP hD hS => ?_)
  have hP : va_P D kx_cl [(h0, .inr (3, [.ref q1, .null, .null, .null, .null, .null, .null, .int 0, .int 0])), (q1, .inr (10, [.ref q2, .ref q3, .int 0])), (q2, .inl (ca 2, 2000, .inr (.inl (fun _ => 0)))), (q3, .inl (ca 3, 2000, .inl (fun _ => 0))), (q4, .inl (ca 1, 2001, .inl (fun _ => 0)))] H := hP
  have hD : va_D A [(h0, .inr (3, [.ref q1, .null, .null, .null, .null, .null, .null, .int 0, .int 0])), (q1, .inr (10, [.ref q2, .ref q3, .int 0])), (q2, .inl (ca 2, 2000, .inr (.inl (fun _ => 0)))), (q3, .inl (ca 3, 2000, .inl (fun _ => 0))), (q4, .inl (ca 1, 2001, .inl (fun _ => 0)))] := hD
  refine W.widen (k := 4) (n := 6004) (by omega) (by omega) ?_
  refine va_putF (D := D) (ci := 3) (v := .ref q4) (ty := .array .int) (C := kc_Heap) (T := kf_Heap) (N := 9) hx hb hts ki_Heap kt_Heap ko_Heap kn_Heap hown hK hP hD hS 0 rfl rfl 1 (by decide) (hts _ (xk_c2 (w := Cond.fieldLink "ModuleHouse$Heap" 20 "ModuleHouse$Heap" "kind" "[I") 122 rfl rfl)) (fun _ h => h) rfl hin rfl (by decide +kernel) rfl rfl (Nat.le_of_ble_eq_true rfl) dd_Heap_init_24 (fun H locs hP hD hS => ?_)
  have hP : va_P D kx_cl [(h0, .inr (3, [.ref q1, .ref q4, .null, .null, .null, .null, .null, .int 0, .int 0])), (q1, .inr (10, [.ref q2, .ref q3, .int 0])), (q2, .inl (ca 2, 2000, .inr (.inl (fun _ => 0)))), (q3, .inl (ca 3, 2000, .inl (fun _ => 0))), (q4, .inl (ca 1, 2001, .inl (fun _ => 0)))] H := hP
  have hD : va_D A [(h0, .inr (3, [.ref q1, .ref q4, .null, .null, .null, .null, .null, .int 0, .int 0])), (q1, .inr (10, [.ref q2, .ref q3, .int 0])), (q2, .inl (ca 2, 2000, .inr (.inl (fun _ => 0)))), (q3, .inl (ca 3, 2000, .inl (fun _ => 0))), (q4, .inl (ca 1, 2001, .inl (fun _ => 0)))] := hD
  refine lv_aload_n hx hb dd_Heap_init_27 rfl (lv_at hl 0 rfl) ?_
  refine lv_sipush (v := 2001) hx hb dd_Heap_init_28 (by decide) ?_
  refine xk_newa (atype := .int) (ty := .int) (cA := ca 1) (a0 := (2001, .inl (fun _ => 0))) (N' := 2001) hx hb (hts _ (xk_c1 (w := Cond.arrayClass .int) 88 rfl rfl)) rfl hK 1 rfl (by intro C h; cases h) hP hD hS hA (fun cA => vp_cell_i cA _ _) (by decide) (by decide) (by decide) (Nat.le_of_ble_eq_true rfl) (Nat.le_of_ble_eq_true rfl) dd_Heap_init_31 (fun q5 H hP hD hS => ?_)
  have hP : va_P D kx_cl [(h0, .inr (3, [.ref q1, .ref q4, .null, .null, .null, .null, .null, .int 0, .int 0])), (q1, .inr (10, [.ref q2, .ref q3, .int 0])), (q2, .inl (ca 2, 2000, .inr (.inl (fun _ => 0)))), (q3, .inl (ca 3, 2000, .inl (fun _ => 0))), (q4, .inl (ca 1, 2001, .inl (fun _ => 0))), (q5, .inl (ca 1, 2001, .inl (fun _ => 0)))] H := hP
  have hD : va_D A [(h0, .inr (3, [.ref q1, .ref q4, .null, .null, .null, .null, .null, .int 0, .int 0])), (q1, .inr (10, [.ref q2, .ref q3, .int 0])), (q2, .inl (ca 2, 2000, .inr (.inl (fun _ => 0)))), (q3, .inl (ca 3, 2000, .inl (fun _ => 0))), (q4, .inl (ca 1, 2001, .inl (fun _ => 0))), (q5, .inl (ca 1, 2001, .inl (fun _ => 0)))] := hD
  refine W.widen (k := 5) (n := 8005) (by omega) (by omega) ?_
  refine va_putF (D := D) (ci := 3) (v := .ref q5) (ty := .array .int) (C := kc_Heap) (T := kf_Heap) (N := 9) hx hb hts ki_Heap kt_Heap ko_Heap kn_Heap hown hK hP hD hS 0 rfl rfl 2 (by decide) (hts _ (xk_c2 (w := Cond.fieldLink "ModuleHouse$Heap" 24 "ModuleHouse$Heap" "size" "[I") 124 rfl rfl)) (fun _ h => h) rfl hin rfl (by decide +kernel) rfl rfl (Nat.le_of_ble_eq_true rfl) dd_Heap_init_33 (fun H locs hP hD hS => ?_)
  have hP : va_P D kx_cl [(h0, .inr (3, [.ref q1, .ref q4, .ref q5, .null, .null, .null, .null, .int 0, .int 0])), (q1, .inr (10, [.ref q2, .ref q3, .int 0])), (q2, .inl (ca 2, 2000, .inr (.inl (fun _ => 0)))), (q3, .inl (ca 3, 2000, .inl (fun _ => 0))), (q4, .inl (ca 1, 2001, .inl (fun _ => 0))), (q5, .inl (ca 1, 2001, .inl (fun _ => 0)))] H := hP
  have hD : va_D A [(h0, .inr (3, [.ref q1, .ref q4, .ref q5, .null, .null, .null, .null, .int 0, .int 0])), (q1, .inr (10, [.ref q2, .ref q3, .int 0])), (q2, .inl (ca 2, 2000, .inr (.inl (fun _ => 0)))), (q3, .inl (ca 3, 2000, .inl (fun _ => 0))), (q4, .inl (ca 1, 2001, .inl (fun _ => 0))), (q5, .inl (ca 1, 2001, .inl (fun _ => 0)))] := hD
  refine lv_aload_n hx hb dd_Heap_init_36 rfl (lv_at hl 0 rfl) ?_
  refine lv_sipush (v := 2001) hx hb dd_Heap_init_37 (by decide) ?_
  refine xk_newa (atype := .int) (ty := .int) (cA := ca 1) (a0 := (2001, .inl (fun _ => 0))) (N' := 2001) hx hb (hts _ (xk_c1 (w := Cond.arrayClass .int) 88 rfl rfl)) rfl hK 1 rfl (by intro C h; cases h) hP hD hS hA (fun cA => vp_cell_i cA _ _) (by decide) (by decide) (by decide) (Nat.le_of_ble_eq_true rfl) (Nat.le_of_ble_eq_true rfl) dd_Heap_init_40 (fun q6 H hP hD hS => ?_)
  have hP : va_P D kx_cl [(h0, .inr (3, [.ref q1, .ref q4, .ref q5, .null, .null, .null, .null, .int 0, .int 0])), (q1, .inr (10, [.ref q2, .ref q3, .int 0])), (q2, .inl (ca 2, 2000, .inr (.inl (fun _ => 0)))), (q3, .inl (ca 3, 2000, .inl (fun _ => 0))), (q4, .inl (ca 1, 2001, .inl (fun _ => 0))), (q5, .inl (ca 1, 2001, .inl (fun _ => 0))), (q6, .inl (ca 1, 2001, .inl (fun _ => 0)))] H := hP
  have hD : va_D A [(h0, .inr (3, [.ref q1, .ref q4, .ref q5, .null, .null, .null, .null, .int 0, .int 0])), (q1, .inr (10, [.ref q2, .ref q3, .int 0])), (q2, .inl (ca 2, 2000, .inr (.inl (fun _ => 0)))), (q3, .inl (ca 3, 2000, .inl (fun _ => 0))), (q4, .inl (ca 1, 2001, .inl (fun _ => 0))), (q5, .inl (ca 1, 2001, .inl (fun _ => 0))), (q6, .inl (ca 1, 2001, .inl (fun _ => 0)))] := hD
  refine W.widen (k := 6) (n := 10006) (by omega) (by omega) ?_
  refine va_putF (D := D) (ci := 3) (v := .ref q6) (ty := .array .int) (C := kc_Heap) (T := kf_Heap) (N := 9) hx hb hts ki_Heap kt_Heap ko_Heap kn_Heap hown hK hP hD hS 0 rfl rfl 3 (by decide) (hts _ (xk_c2 (w := Cond.fieldLink "ModuleHouse$Heap" 27 "ModuleHouse$Heap" "start" "[I") 126 rfl rfl)) (fun _ h => h) rfl hin rfl (by decide +kernel) rfl rfl (Nat.le_of_ble_eq_true rfl) dd_Heap_init_42 (fun H locs hP hD hS => ?_)
  have hP : va_P D kx_cl [(h0, .inr (3, [.ref q1, .ref q4, .ref q5, .ref q6, .null, .null, .null, .int 0, .int 0])), (q1, .inr (10, [.ref q2, .ref q3, .int 0])), (q2, .inl (ca 2, 2000, .inr (.inl (fun _ => 0)))), (q3, .inl (ca 3, 2000, .inl (fun _ => 0))), (q4, .inl (ca 1, 2001, .inl (fun _ => 0))), (q5, .inl (ca 1, 2001, .inl (fun _ => 0))), (q6, .inl (ca 1, 2001, .inl (fun _ => 0)))] H := hP
  have hD : va_D A [(h0, .inr (3, [.ref q1, .ref q4, .ref q5, .ref q6, .null, .null, .null, .int 0, .int 0])), (q1, .inr (10, [.ref q2, .ref q3, .int 0])), (q2, .inl (ca 2, 2000, .inr (.inl (fun _ => 0)))), (q3, .inl (ca 3, 2000, .inl (fun _ => 0))), (q4, .inl (ca 1, 2001, .inl (fun _ => 0))), (q5, .inl (ca 1, 2001, .inl (fun _ => 0))), (q6, .inl (ca 1, 2001, .inl (fun _ => 0)))] := hD
  refine lv_aload_n hx hb dd_Heap_init_45 rfl (lv_at hl 0 rfl) ?_
  refine lv_sipush (v := 2001) hx hb dd_Heap_init_46 (by decide) ?_
  refine xk_newa (atype := .boolean) (ty := .boolean) (cA := ca 3) (a0 := (2001, .inl (fun _ => 0))) (N' := 2001) hx hb (hts _ (xk_c2 (w := Cond.arrayClass .boolean) 81 rfl rfl)) rfl hK 3 rfl (by intro C h; cases h) hP hD hS hA (fun cA => vp_cell_i cA _ _) (by decide) (by decide) (by decide) (Nat.le_of_ble_eq_true rfl) (Nat.le_of_ble_eq_true rfl) dd_Heap_init_49 (fun q7 H hP hD hS => ?_)
  have hP : va_P D kx_cl [(h0, .inr (3, [.ref q1, .ref q4, .ref q5, .ref q6, .null, .null, .null, .int 0, .int 0])), (q1, .inr (10, [.ref q2, .ref q3, .int 0])), (q2, .inl (ca 2, 2000, .inr (.inl (fun _ => 0)))), (q3, .inl (ca 3, 2000, .inl (fun _ => 0))), (q4, .inl (ca 1, 2001, .inl (fun _ => 0))), (q5, .inl (ca 1, 2001, .inl (fun _ => 0))), (q6, .inl (ca 1, 2001, .inl (fun _ => 0))), (q7, .inl (ca 3, 2001, .inl (fun _ => 0)))] H := hP
  have hD : va_D A [(h0, .inr (3, [.ref q1, .ref q4, .ref q5, .ref q6, .null, .null, .null, .int 0, .int 0])), (q1, .inr (10, [.ref q2, .ref q3, .int 0])), (q2, .inl (ca 2, 2000, .inr (.inl (fun _ => 0)))), (q3, .inl (ca 3, 2000, .inl (fun _ => 0))), (q4, .inl (ca 1, 2001, .inl (fun _ => 0))), (q5, .inl (ca 1, 2001, .inl (fun _ => 0))), (q6, .inl (ca 1, 2001, .inl (fun _ => 0))), (q7, .inl (ca 3, 2001, .inl (fun _ => 0)))] := hD
  refine W.widen (k := 7) (n := 12007) (by omega) (by omega) ?_
  refine va_putF (D := D) (ci := 3) (v := .ref q7) (ty := .array .boolean) (C := kc_Heap) (T := kf_Heap) (N := 9) hx hb hts ki_Heap kt_Heap ko_Heap kn_Heap hown hK hP hD hS 0 rfl rfl 4 (by decide) (hts _ (xk_c2 (w := Cond.fieldLink "ModuleHouse$Heap" 30 "ModuleHouse$Heap" "lives" "[Z") 127 rfl rfl)) (fun _ h => h) rfl hin rfl (by decide +kernel) rfl rfl (Nat.le_of_ble_eq_true rfl) dd_Heap_init_51 (fun H locs hP hD hS => ?_)
  have hP : va_P D kx_cl [(h0, .inr (3, [.ref q1, .ref q4, .ref q5, .ref q6, .ref q7, .null, .null, .int 0, .int 0])), (q1, .inr (10, [.ref q2, .ref q3, .int 0])), (q2, .inl (ca 2, 2000, .inr (.inl (fun _ => 0)))), (q3, .inl (ca 3, 2000, .inl (fun _ => 0))), (q4, .inl (ca 1, 2001, .inl (fun _ => 0))), (q5, .inl (ca 1, 2001, .inl (fun _ => 0))), (q6, .inl (ca 1, 2001, .inl (fun _ => 0))), (q7, .inl (ca 3, 2001, .inl (fun _ => 0)))] H := hP
  have hD : va_D A [(h0, .inr (3, [.ref q1, .ref q4, .ref q5, .ref q6, .ref q7, .null, .null, .int 0, .int 0])), (q1, .inr (10, [.ref q2, .ref q3, .int 0])), (q2, .inl (ca 2, 2000, .inr (.inl (fun _ => 0)))), (q3, .inl (ca 3, 2000, .inl (fun _ => 0))), (q4, .inl (ca 1, 2001, .inl (fun _ => 0))), (q5, .inl (ca 1, 2001, .inl (fun _ => 0))), (q6, .inl (ca 1, 2001, .inl (fun _ => 0))), (q7, .inl (ca 3, 2001, .inl (fun _ => 0)))] := hD
  refine lv_aload_n hx hb dd_Heap_init_54 rfl (lv_at hl 0 rfl) ?_
  refine lv_sipush (v := 2000) hx hb dd_Heap_init_55 (by decide) ?_
  refine xk_newa (atype := .int) (ty := .int) (cA := ca 1) (a0 := (2000, .inl (fun _ => 0))) (N' := 2000) hx hb (hts _ (xk_c1 (w := Cond.arrayClass .int) 88 rfl rfl)) rfl hK 1 rfl (by intro C h; cases h) hP hD hS hA (fun cA => vp_cell_i cA _ _) (by decide) (by decide) (by decide) (Nat.le_of_ble_eq_true rfl) (Nat.le_of_ble_eq_true rfl) dd_Heap_init_58 (fun q8 H hP hD hS => ?_)
  have hP : va_P D kx_cl [(h0, .inr (3, [.ref q1, .ref q4, .ref q5, .ref q6, .ref q7, .null, .null, .int 0, .int 0])), (q1, .inr (10, [.ref q2, .ref q3, .int 0])), (q2, .inl (ca 2, 2000, .inr (.inl (fun _ => 0)))), (q3, .inl (ca 3, 2000, .inl (fun _ => 0))), (q4, .inl (ca 1, 2001, .inl (fun _ => 0))), (q5, .inl (ca 1, 2001, .inl (fun _ => 0))), (q6, .inl (ca 1, 2001, .inl (fun _ => 0))), (q7, .inl (ca 3, 2001, .inl (fun _ => 0))), (q8, .inl (ca 1, 2000, .inl (fun _ => 0)))] H := hP
  have hD : va_D A [(h0, .inr (3, [.ref q1, .ref q4, .ref q5, .ref q6, .ref q7, .null, .null, .int 0, .int 0])), (q1, .inr (10, [.ref q2, .ref q3, .int 0])), (q2, .inl (ca 2, 2000, .inr (.inl (fun _ => 0)))), (q3, .inl (ca 3, 2000, .inl (fun _ => 0))), (q4, .inl (ca 1, 2001, .inl (fun _ => 0))), (q5, .inl (ca 1, 2001, .inl (fun _ => 0))), (q6, .inl (ca 1, 2001, .inl (fun _ => 0))), (q7, .inl (ca 3, 2001, .inl (fun _ => 0))), (q8, .inl (ca 1, 2000, .inl (fun _ => 0)))] := hD
  refine W.widen (k := 8) (n := 14007) (by omega) (by omega) ?_
  refine va_putF (D := D) (ci := 3) (v := .ref q8) (ty := .array .int) (C := kc_Heap) (T := kf_Heap) (N := 9) hx hb hts ki_Heap kt_Heap ko_Heap kn_Heap hown hK hP hD hS 0 rfl rfl 5 (by decide) (hts _ (xk_c2 (w := Cond.fieldLink "ModuleHouse$Heap" 34 "ModuleHouse$Heap" "free" "[I") 128 rfl rfl)) (fun _ h => h) rfl hin rfl (by decide +kernel) rfl rfl (Nat.le_of_ble_eq_true rfl) dd_Heap_init_60 (fun H locs hP hD hS => ?_)
  have hP : va_P D kx_cl [(h0, .inr (3, [.ref q1, .ref q4, .ref q5, .ref q6, .ref q7, .ref q8, .null, .int 0, .int 0])), (q1, .inr (10, [.ref q2, .ref q3, .int 0])), (q2, .inl (ca 2, 2000, .inr (.inl (fun _ => 0)))), (q3, .inl (ca 3, 2000, .inl (fun _ => 0))), (q4, .inl (ca 1, 2001, .inl (fun _ => 0))), (q5, .inl (ca 1, 2001, .inl (fun _ => 0))), (q6, .inl (ca 1, 2001, .inl (fun _ => 0))), (q7, .inl (ca 3, 2001, .inl (fun _ => 0))), (q8, .inl (ca 1, 2000, .inl (fun _ => 0)))] H := hP
  have hD : va_D A [(h0, .inr (3, [.ref q1, .ref q4, .ref q5, .ref q6, .ref q7, .ref q8, .null, .int 0, .int 0])), (q1, .inr (10, [.ref q2, .ref q3, .int 0])), (q2, .inl (ca 2, 2000, .inr (.inl (fun _ => 0)))), (q3, .inl (ca 3, 2000, .inl (fun _ => 0))), (q4, .inl (ca 1, 2001, .inl (fun _ => 0))), (q5, .inl (ca 1, 2001, .inl (fun _ => 0))), (q6, .inl (ca 1, 2001, .inl (fun _ => 0))), (q7, .inl (ca 3, 2001, .inl (fun _ => 0))), (q8, .inl (ca 1, 2000, .inl (fun _ => 0)))] := hD
  refine lv_aload_n hx hb dd_Heap_init_63 rfl (lv_at hl 0 rfl) ?_
  refine lv_sipush (v := 2000) hx hb dd_Heap_init_64 (by decide) ?_
  refine xk_newa (atype := .int) (ty := .int) (cA := ca 1) (a0 := (2000, .inl (fun _ => 0))) (N' := 2000) hx hb (hts _ (xk_c1 (w := Cond.arrayClass .int) 88 rfl rfl)) rfl hK 1 rfl (by intro C h; cases h) hP hD hS hA (fun cA => vp_cell_i cA _ _) (by decide) (by decide) (by decide) (Nat.le_of_ble_eq_true rfl) (Nat.le_of_ble_eq_true rfl) dd_Heap_init_67 (fun q9 H hP hD hS => ?_)
  have hP : va_P D kx_cl [(h0, .inr (3, [.ref q1, .ref q4, .ref q5, .ref q6, .ref q7, .ref q8, .null, .int 0, .int 0])), (q1, .inr (10, [.ref q2, .ref q3, .int 0])), (q2, .inl (ca 2, 2000, .inr (.inl (fun _ => 0)))), (q3, .inl (ca 3, 2000, .inl (fun _ => 0))), (q4, .inl (ca 1, 2001, .inl (fun _ => 0))), (q5, .inl (ca 1, 2001, .inl (fun _ => 0))), (q6, .inl (ca 1, 2001, .inl (fun _ => 0))), (q7, .inl (ca 3, 2001, .inl (fun _ => 0))), (q8, .inl (ca 1, 2000, .inl (fun _ => 0))), (q9, .inl (ca 1, 2000, .inl (fun _ => 0)))] H := hP
  have hD : va_D A [(h0, .inr (3, [.ref q1, .ref q4, .ref q5, .ref q6, .ref q7, .ref q8, .null, .int 0, .int 0])), (q1, .inr (10, [.ref q2, .ref q3, .int 0])), (q2, .inl (ca 2, 2000, .inr (.inl (fun _ => 0)))), (q3, .inl (ca 3, 2000, .inl (fun _ => 0))), (q4, .inl (ca 1, 2001, .inl (fun _ => 0))), (q5, .inl (ca 1, 2001, .inl (fun _ => 0))), (q6, .inl (ca 1, 2001, .inl (fun _ => 0))), (q7, .inl (ca 3, 2001, .inl (fun _ => 0))), (q8, .inl (ca 1, 2000, .inl (fun _ => 0))), (q9, .inl (ca 1, 2000, .inl (fun _ => 0)))] := hD
  refine W.widen (k := 9) (n := 16007) (by omega) (by omega) ?_
  refine va_putF (D := D) (ci := 3) (v := .ref q9) (ty := .array .int) (C := kc_Heap) (T := kf_Heap) (N := 9) hx hb hts ki_Heap kt_Heap ko_Heap kn_Heap hown hK hP hD hS 0 rfl rfl 6 (by decide) (hts _ (xk_c2 (w := Cond.fieldLink "ModuleHouse$Heap" 37 "ModuleHouse$Heap" "found" "[I") 129 rfl rfl)) (fun _ h => h) rfl hin rfl (by decide +kernel) rfl rfl (Nat.le_of_ble_eq_true rfl) dd_Heap_init_69 (fun H locs hP hD hS => ?_)
  have hP : va_P D kx_cl [(h0, .inr (3, [.ref q1, .ref q4, .ref q5, .ref q6, .ref q7, .ref q8, .ref q9, .int 0, .int 0])), (q1, .inr (10, [.ref q2, .ref q3, .int 0])), (q2, .inl (ca 2, 2000, .inr (.inl (fun _ => 0)))), (q3, .inl (ca 3, 2000, .inl (fun _ => 0))), (q4, .inl (ca 1, 2001, .inl (fun _ => 0))), (q5, .inl (ca 1, 2001, .inl (fun _ => 0))), (q6, .inl (ca 1, 2001, .inl (fun _ => 0))), (q7, .inl (ca 3, 2001, .inl (fun _ => 0))), (q8, .inl (ca 1, 2000, .inl (fun _ => 0))), (q9, .inl (ca 1, 2000, .inl (fun _ => 0)))] H := hP
  have hD : va_D A [(h0, .inr (3, [.ref q1, .ref q4, .ref q5, .ref q6, .ref q7, .ref q8, .ref q9, .int 0, .int 0])), (q1, .inr (10, [.ref q2, .ref q3, .int 0])), (q2, .inl (ca 2, 2000, .inr (.inl (fun _ => 0)))), (q3, .inl (ca 3, 2000, .inl (fun _ => 0))), (q4, .inl (ca 1, 2001, .inl (fun _ => 0))), (q5, .inl (ca 1, 2001, .inl (fun _ => 0))), (q6, .inl (ca 1, 2001, .inl (fun _ => 0))), (q7, .inl (ca 3, 2001, .inl (fun _ => 0))), (q8, .inl (ca 1, 2000, .inl (fun _ => 0))), (q9, .inl (ca 1, 2000, .inl (fun _ => 0)))] := hD
  refine lv_aload_n hx hb dd_Heap_init_72 rfl (lv_at hl 0 rfl) ?_
  refine lv_iconst (v := 0) hx hb dd_Heap_init_73 (by decide) ?_
  refine va_put (D := D) (ci := 3) (v := .int 0) (ty := .int) (C := kc_Heap) (T := kf_Heap) (N := 9) hx hb hts ki_Heap kt_Heap ko_Heap kn_Heap hown hK hP hD hS 0 rfl rfl 7 (by decide) (hts _ (xk_c2 (w := Cond.fieldLink "ModuleHouse$Heap" 40 "ModuleHouse$Heap" "freeCount" "I") 130 rfl rfl)) (fun _ h => h) rfl (by decide +kernel) rfl rfl (Nat.le_of_ble_eq_true rfl) dd_Heap_init_74 (fun H locs hP hD hS => ?_)
  have hP : va_P D kx_cl [(h0, .inr (3, [.ref q1, .ref q4, .ref q5, .ref q6, .ref q7, .ref q8, .ref q9, .int 0, .int 0])), (q1, .inr (10, [.ref q2, .ref q3, .int 0])), (q2, .inl (ca 2, 2000, .inr (.inl (fun _ => 0)))), (q3, .inl (ca 3, 2000, .inl (fun _ => 0))), (q4, .inl (ca 1, 2001, .inl (fun _ => 0))), (q5, .inl (ca 1, 2001, .inl (fun _ => 0))), (q6, .inl (ca 1, 2001, .inl (fun _ => 0))), (q7, .inl (ca 3, 2001, .inl (fun _ => 0))), (q8, .inl (ca 1, 2000, .inl (fun _ => 0))), (q9, .inl (ca 1, 2000, .inl (fun _ => 0)))] H := hP
  have hD : va_D A [(h0, .inr (3, [.ref q1, .ref q4, .ref q5, .ref q6, .ref q7, .ref q8, .ref q9, .int 0, .int 0])), (q1, .inr (10, [.ref q2, .ref q3, .int 0])), (q2, .inl (ca 2, 2000, .inr (.inl (fun _ => 0)))), (q3, .inl (ca 3, 2000, .inl (fun _ => 0))), (q4, .inl (ca 1, 2001, .inl (fun _ => 0))), (q5, .inl (ca 1, 2001, .inl (fun _ => 0))), (q6, .inl (ca 1, 2001, .inl (fun _ => 0))), (q7, .inl (ca 3, 2001, .inl (fun _ => 0))), (q8, .inl (ca 1, 2000, .inl (fun _ => 0))), (q9, .inl (ca 1, 2000, .inl (fun _ => 0)))] := hD
  refine lv_aload_n hx hb dd_Heap_init_77 rfl (lv_at hl 0 rfl) ?_
  refine lv_iconst (v := 0) hx hb dd_Heap_init_78 (by decide) ?_
  refine va_put (D := D) (ci := 3) (v := .int 0) (ty := .int) (C := kc_Heap) (T := kf_Heap) (N := 9) hx hb hts ki_Heap kt_Heap ko_Heap kn_Heap hown hK hP hD hS 0 rfl rfl 8 (by decide) (hts _ (xk_c2 (w := Cond.fieldLink "ModuleHouse$Heap" 44 "ModuleHouse$Heap" "foundCount" "I") 131 rfl rfl)) (fun _ h => h) rfl (by decide +kernel) rfl rfl (Nat.le_of_ble_eq_true rfl) dd_Heap_init_79 (fun H locs hP hD hS => ?_)
  have hP : va_P D kx_cl [(h0, .inr (3, [.ref q1, .ref q4, .ref q5, .ref q6, .ref q7, .ref q8, .ref q9, .int 0, .int 0])), (q1, .inr (10, [.ref q2, .ref q3, .int 0])), (q2, .inl (ca 2, 2000, .inr (.inl (fun _ => 0)))), (q3, .inl (ca 3, 2000, .inl (fun _ => 0))), (q4, .inl (ca 1, 2001, .inl (fun _ => 0))), (q5, .inl (ca 1, 2001, .inl (fun _ => 0))), (q6, .inl (ca 1, 2001, .inl (fun _ => 0))), (q7, .inl (ca 3, 2001, .inl (fun _ => 0))), (q8, .inl (ca 1, 2000, .inl (fun _ => 0))), (q9, .inl (ca 1, 2000, .inl (fun _ => 0)))] H := hP
  have hD : va_D A [(h0, .inr (3, [.ref q1, .ref q4, .ref q5, .ref q6, .ref q7, .ref q8, .ref q9, .int 0, .int 0])), (q1, .inr (10, [.ref q2, .ref q3, .int 0])), (q2, .inl (ca 2, 2000, .inr (.inl (fun _ => 0)))), (q3, .inl (ca 3, 2000, .inl (fun _ => 0))), (q4, .inl (ca 1, 2001, .inl (fun _ => 0))), (q5, .inl (ca 1, 2001, .inl (fun _ => 0))), (q6, .inl (ca 1, 2001, .inl (fun _ => 0))), (q7, .inl (ca 3, 2001, .inl (fun _ => 0))), (q8, .inl (ca 1, 2000, .inl (fun _ => 0))), (q9, .inl (ca 1, 2000, .inl (fun _ => 0)))] := hD
  have hP9 := hP.sub (ws' := [(h0, .inr (3, [.ref q1, .ref q4, .ref q5, .ref q6, .ref q7, .ref q8, .ref q9, .int 0, .int 0])), (q1, .inr (10, [.ref q2, .ref q3, .int 0])), (q2, .inl (ca 2, 2000, .inr (.inl (fun _ => 0)))), (q3, .inl (ca 3, 2000, .inl (fun _ => 0))), (q4, .inl (ca 1, 2001, .inl (fun _ => 0))), (q5, .inl (ca 1, 2001, .inl (fun _ => 0))), (q6, .inl (ca 1, 2001, .inl (fun _ => 0))), (q7, .inl (ca 3, 2001, .inl (fun _ => 0))), (q8, .inl (ca 1, 2000, .inl (fun _ => 0))), (q9, .inl (ca 1, 2000, .inl (fun _ => 0)))]) [0, 1, 2, 3, 4, 5, 6, 7, 8, 9] rfl
  have hD9 := hD.sub (ws' := [(h0, .inr (3, [.ref q1, .ref q4, .ref q5, .ref q6, .ref q7, .ref q8, .ref q9, .int 0, .int 0])), (q1, .inr (10, [.ref q2, .ref q3, .int 0])), (q2, .inl (ca 2, 2000, .inr (.inl (fun _ => 0)))), (q3, .inl (ca 3, 2000, .inl (fun _ => 0))), (q4, .inl (ca 1, 2001, .inl (fun _ => 0))), (q5, .inl (ca 1, 2001, .inl (fun _ => 0))), (q6, .inl (ca 1, 2001, .inl (fun _ => 0))), (q7, .inl (ca 3, 2001, .inl (fun _ => 0))), (q8, .inl (ca 1, 2000, .inl (fun _ => 0))), (q9, .inl (ca 1, 2000, .inl (fun _ => 0)))]) [0, 1, 2, 3, 4, 5, 6, 7, 8, 9] (by decide) rfl
  exact W.vret hx hb hr (fun t ht hW => ⟨⟨(), rfl, trivial, q1, q2, q3, q4, q5, q6, q7, q8, q9, by rw [ht]; exact hP9, hD9⟩, hS.F ht⟩) hS.2.2 dd_Heap_init_82 hlocks
set_option maxHeartbeats 8000000 in
set_option maxRecDepth 100000 in
theorem cc_Memory {l : Launch} (D : va_G) (ca : Nat → ClassId) (h0 : Nat) (sz : Nat) : Met l ⟨"ModuleHouse$Memory", "<init>", "()V"⟩ (Cond.code ⟨"ModuleHouse$Memory", "<init>", "()V"⟩ prog_6_method_1_code 1 none :: xk_gd) { frames := 1, cells := 1, slots := 65536, locals := 14 } (va_Pc [.ref h0] (fun U => U.heap.size = sz ∧ va_P D kx_cl [(h0, .inr (5, [.int 0, .int 0, .null]))] U.heap ∧ va_K D kx_cl (kx_ty ca) U ∧ va_D (fun _ => True) [(h0, .inr (5, [.int 0, .int 0, .null]))] ∧ xk_Nw U)) (va_Qv (fun _ : Unit => True) (fun _ t => ∃ q1 : Nat, va_P D kx_cl [(h0, .inr (5, [.int 0, .int 0, .ref q1])), (q1, .inl (ca 0, 65536, .inl (fun _ => 0)))] t.heap ∧ va_D (va_A [(h0, .inr (5, [.int 0, .int 0, .null]))] sz) [(h0, .inr (5, [.int 0, .int 0, .ref q1])), (q1, .inl (ca 0, 65536, .inl (fun _ => 0)))]) (va_A [(h0, .inr (5, [.int 0, .int 0, .null]))] sz)) 1 65536 (va_A [(h0, .inr (5, [.int 0, .int 0, .null]))] sz) := by
  refine Met.ofW (cc := prog_6_method_1_code) (maxL := 1) (ret := none) (by decide) rfl ?_
  intro p e s m args below meth c s₁ B hml hv
  obtain ⟨rfl, hsz, hP, hK, hD0, hN⟩ := hv
  have hx := B.exec
  have hb := B.bytes
  have hr := B.returns
  have hts : ∀ w ∈ xk_gd, w.before [.ref h0].toArray s = true := fun w hw => atoms_spec (ws := Cond.code ⟨"ModuleHouse$Memory", "<init>", "()V"⟩ prog_6_method_1_code 1 none :: xk_gd) B.pre w (List.mem_cons_of_mem _ hw)
  have hown : s.vm.findClass "ModuleHouse$Memory" = some m.cls := findClass_of_methodNamed B.named
  have hlocks := B.notSynchronized
  have hin : meth.name = "<init>" := (name_of_methodNamed B.named B.method).1
  subst hsz
  have hD := hD0.self (sz := s.heap.size)
  generalize hAe : va_A [(h0, .inr (5, [.int 0, .int 0, .null]))] s.heap.size = A at hD ⊢
  have hA : ∀ q : Nat, s.heap.size ≤ q → A q := fun q h => by rw [← hAe]; exact Or.inr h
  have hS : va_S A s.heap s.heap [] := va_S.rf
  have hl := lv_entry [.ref h0] (n := 1) (Nat.le_of_ble_eq_true rfl)
  rw [lg_entry_eq]
  generalize (lg_sl [.ref h0] ++ List.replicate (1 - (lg_sl [.ref h0]).length) Slot.unset).toArray = ls at hl ⊢
  have hl : lv_has ls 1 [(0, .ref h0)] := hl
  refine lv_aload_n hx hb dd_Memory_init_0 rfl (lv_at hl 0 rfl) ?_
  refine W.objInit hx hb hown (hts _ (xk_c2 (w := Cond.methodLink "ModuleHouse$Memory" 3 Lib.objectInit) 156 rfl rfl)) (hts _ (xk_c1 (w := Cond.instanceMethod Lib.objectInit) 39 rfl rfl)) (hts _ (xk_c1 (w := Cond.code Lib.objectInit ⟨#[0xb1]⟩ 1 none) 40 rfl rfl)) rfl (by rw [hml]; exact hl.1) rfl dd_Memory_init_1 (Nat.le_of_ble_eq_true rfl) (Nat.le_of_ble_eq_true rfl) ?_
  refine W.eq (g2 := F0 m 4 ls []) rfl ?_
  refine lv_aload_n hx hb dd_Memory_init_4 rfl (lv_at hl 0 rfl) ?_
  refine lv_ldc (v := 65536) hx hb hown (hts _ (xk_c2 (w := Jvm.Cond.constant "ModuleHouse$Memory" 9 65536) 157 rfl rfl)) dd_Memory_init_5 ?_
  refine xk_newa (atype := .byte) (ty := .byte) (cA := ca 0) (a0 := (65536, .inl (fun _ => 0))) (N' := 65536) hx hb (hts _ (xk_c1 (w := Cond.arrayClass .byte) 86 rfl rfl)) rfl hK 0 rfl (by intro C h; cases h) hP hD hS hA (fun cA => vp_cell_i cA _ _) (by decide) (by decide) (by decide) (Nat.le_of_ble_eq_true rfl) (Nat.le_of_ble_eq_true rfl) dd_Memory_init_7 (fun q1 H hP hD hS => ?_)
  have hP : va_P D kx_cl [(h0, .inr (5, [.int 0, .int 0, .null])), (q1, .inl (ca 0, 65536, .inl (fun _ => 0)))] H := hP
  have hD : va_D A [(h0, .inr (5, [.int 0, .int 0, .null])), (q1, .inl (ca 0, 65536, .inl (fun _ => 0)))] := hD
  refine W.widen (k := 1) (n := 65536) (by omega) (by omega) ?_
  refine va_putF (D := D) (ci := 5) (v := .ref q1) (ty := .array .byte) (C := kc_Memory) (T := kf_Memory) (N := 3) hx hb hts ki_Memory kt_Memory ko_Memory kn_Memory hown hK hP hD hS 0 rfl rfl 2 (by decide) (hts _ (xk_c2 (w := Cond.fieldLink "ModuleHouse$Memory" 10 "ModuleHouse$Memory" "bytes" "[B") 162 rfl rfl)) (fun _ h => h) rfl hin rfl (by decide +kernel) rfl rfl (Nat.le_of_ble_eq_true rfl) dd_Memory_init_9 (fun H locs hP hD hS => ?_)
  have hP : va_P D kx_cl [(h0, .inr (5, [.int 0, .int 0, .ref q1])), (q1, .inl (ca 0, 65536, .inl (fun _ => 0)))] H := hP
  have hD : va_D A [(h0, .inr (5, [.int 0, .int 0, .ref q1])), (q1, .inl (ca 0, 65536, .inl (fun _ => 0)))] := hD
  have hP9 := hP.sub (ws' := [(h0, .inr (5, [.int 0, .int 0, .ref q1])), (q1, .inl (ca 0, 65536, .inl (fun _ => 0)))]) [0, 1] rfl
  have hD9 := hD.sub (ws' := [(h0, .inr (5, [.int 0, .int 0, .ref q1])), (q1, .inl (ca 0, 65536, .inl (fun _ => 0)))]) [0, 1] (by decide) rfl
  exact W.vret hx hb hr (fun t ht hW => ⟨⟨(), rfl, trivial, q1, by rw [ht]; exact hP9, hD9⟩, hS.F ht⟩) hS.2.2 dd_Memory_init_12 hlocks
