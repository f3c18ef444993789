/-- every number is 0 -/
def xl_u0 : xk_St := ((fun _ => 0), (fun _ => 0), (fun _ _ => 0), (fun _ _ => 0))
theorem xl_arr {args : Array Value} {s : State} {ty : FieldType} (h : (Cond.arrayClass ty).before args s = true) (hno : ∀ C, ty ≠ .object C) : ∃ cA : ClassId, ArrOfT s cA ty ∧ va_RA s cA ty := by
  obtain ⟨cA, kA, comp, h1, h2, h3⟩ := Cond.arrayClass_spec h
  refine ⟨cA, fun n z => ⟨fun k h => (by cases h), kA, h2, comp, h3⟩, ?_⟩
  cases ty with
  | object C => exact absurd rfl (hno C)
  | _ => exact h1
set_option maxRecDepth 100000 in
theorem xl_eH : ((flatC (Jvm.Cond.and given_1 narrow_1)).drop 220).take 8 = (List.range 8).map (fun j => Cond.eq (.elem (Term.static "ModuleHouse$Reader" "HEAD" "[I") (.int (Int32.ofNat j))) (.int (xt_H j))) := by decide +kernel
theorem xl_aH {s : State} {b : Nat} (htsA : ∀ w ∈ lw_tbl, w.before #[Value.ref b] s = true) (hgv : (Jvm.Cond.and given_1 narrow_1).before #[Value.ref b] s = true) : xk_Ar "ModuleHouse$Reader" "HEAD" "[I" .int 8 xt_H (fun q => s.heap.size ≤ q) s s.heap := by
  have hs := flat_of_before _ hgv
  have hA : ∀ a : Nat, a < s.heap.size → ¬ s.heap.size ≤ a := fun a h => Nat.not_le.mpr h
  obtain ⟨t, ht, hT⟩ := va_Tof (args := #[Value.ref b]) (s := s) (tm := (Term.static "ModuleHouse$Reader" "HEAD" "[I")) (ty := .int) (N := 8) (f := fun j => .int (xt_H j)) (A := fun q => s.heap.size ≤ q) (by decide) (hs _ (by decide +kernel)) (va_eqt (hs _ (by decide +kernel))) (fun j hj => va_eqt (hs _ (List.mem_of_mem_drop (List.mem_of_mem_take (by rw [xl_eH]; exact List.mem_map.mpr ⟨j, List.mem_range.mpr hj, rfl⟩))))) hA
  exact ⟨t, va_Zof (htsA _ (List.mem_append_right _ (xm_4 (w := Cond.laysStatic "ModuleHouse$Reader" "HEAD" "[I") 122 rfl))) (htsA _ (List.mem_append_right _ (xm_1 (w := Cond.initialized "ModuleHouse$Reader") 6 rfl))) ht hA, hT⟩
set_option maxRecDepth 100000 in
theorem xl_eS : ((flatC (Jvm.Cond.and given_1 narrow_1)).drop 231).take 287 = (List.range 287).map (fun j => Cond.eq (.elem (Term.static "ModuleHouse$Reader" "SHAPE" "[C") (.int (Int32.ofNat j))) (.int (xt_S j))) := by decide +kernel
theorem xl_aS {s : State} {b : Nat} (htsA : ∀ w ∈ lw_tbl, w.before #[Value.ref b] s = true) (hgv : (Jvm.Cond.and given_1 narrow_1).before #[Value.ref b] s = true) : xk_Ar "ModuleHouse$Reader" "SHAPE" "[C" .char 287 xt_S (fun q => s.heap.size ≤ q) s s.heap := by
  have hs := flat_of_before _ hgv
  have hA : ∀ a : Nat, a < s.heap.size → ¬ s.heap.size ≤ a := fun a h => Nat.not_le.mpr h
  obtain ⟨t, ht, hT⟩ := va_Tof (args := #[Value.ref b]) (s := s) (tm := (Term.static "ModuleHouse$Reader" "SHAPE" "[C")) (ty := .char) (N := 287) (f := fun j => .int (xt_S j)) (A := fun q => s.heap.size ≤ q) (by decide) (hs _ (by decide +kernel)) (va_eqt (hs _ (by decide +kernel))) (fun j hj => va_eqt (hs _ (List.mem_of_mem_drop (List.mem_of_mem_take (by rw [xl_eS]; exact List.mem_map.mpr ⟨j, List.mem_range.mpr hj, rfl⟩))))) hA
  exact ⟨t, va_Zof (htsA _ (List.mem_append_right _ (xm_5 (w := Cond.laysStatic "ModuleHouse$Reader" "SHAPE" "[C") 32 rfl))) (htsA _ (List.mem_append_right _ (xm_1 (w := Cond.initialized "ModuleHouse$Reader") 6 rfl))) ht hA, hT⟩
set_option maxRecDepth 100000 in
theorem xl_eW : ((flatC (Jvm.Cond.and given_1 narrow_1)).drop 521).take 23 = (List.range 23).map (fun j => Cond.eq (.elem (Term.static "ModuleHouse$Memory" "WIDTH" "[I") (.int (Int32.ofNat j))) (.int (xt_W j))) := by decide +kernel
theorem xl_aW {s : State} {b : Nat} (htsA : ∀ w ∈ lw_tbl, w.before #[Value.ref b] s = true) (hgv : (Jvm.Cond.and given_1 narrow_1).before #[Value.ref b] s = true) : xk_Ar "ModuleHouse$Memory" "WIDTH" "[I" .int 23 xt_W (fun q => s.heap.size ≤ q) s s.heap := by
  have hs := flat_of_before _ hgv
  have hA : ∀ a : Nat, a < s.heap.size → ¬ s.heap.size ≤ a := fun a h => Nat.not_le.mpr h
  obtain ⟨t, ht, hT⟩ := va_Tof (args := #[Value.ref b]) (s := s) (tm := (Term.static "ModuleHouse$Memory" "WIDTH" "[I")) (ty := .int) (N := 23) (f := fun j => .int (xt_W j)) (A := fun q => s.heap.size ≤ q) (by decide) (hs _ (by decide +kernel)) (va_eqt (hs _ (by decide +kernel))) (fun j hj => va_eqt (hs _ (List.mem_of_mem_drop (List.mem_of_mem_take (by rw [xl_eW]; exact List.mem_map.mpr ⟨j, List.mem_range.mpr hj, rfl⟩))))) hA
  exact ⟨t, va_Zof (htsA _ (List.mem_append_right _ (xm_6 (w := Cond.laysStatic "ModuleHouse$Memory" "WIDTH" "[I") 61 rfl))) (htsA _ (List.mem_append_right _ (xm_1 (w := Cond.initialized "ModuleHouse$Memory") 11 rfl))) ht hA, hT⟩
theorem xl_F {s : State} {b : Nat} (htsA : ∀ w ∈ lw_tbl, w.before #[Value.ref b] s = true) (hgv : (Jvm.Cond.and given_1 narrow_1).before #[Value.ref b] s = true) : xk_F (fun q => s.heap.size ≤ q) s s.heap := by
  have hs := flat_of_before _ hgv
  have hA : ∀ a : Nat, a < s.heap.size → ¬ s.heap.size ≤ a := fun a h => Nat.not_le.mpr h
  refine ⟨fun w hw hd => ?_, xk_L.of (args := #[Value.ref b]) (htsA _ (List.mem_append_right _ (xm_3 (w := Cond.laysStatic "java/lang/Throwable" "UNASSIGNED_STACK" "[Ljava/lang/StackTraceElement;") 76 rfl))) (hs (Cond.isRef (.static "java/lang/Throwable" "UNASSIGNED_STACK" "[Ljava/lang/StackTraceElement;")) (by decide +kernel)) hA, xk_L.of (args := #[Value.ref b]) (htsA _ (List.mem_append_right _ (xm_3 (w := Cond.laysStatic "java/lang/Throwable" "SUPPRESSED_SENTINEL" "Ljava/util/List;") 78 rfl))) (hs (Cond.isRef (.static "java/lang/Throwable" "SUPPRESSED_SENTINEL" "Ljava/util/List;")) (by decide +kernel)) hA, va_Nc.of (args := #[Value.ref b]) (hs (Cond.not (.castable "java/lang/UnsupportedOperationException" "java/lang/IllegalArgumentException")) (by decide +kernel)), va_Nc.of (args := #[Value.ref b]) (hs (Cond.not (.castable "java/lang/IllegalStateException" "java/lang/IllegalArgumentException")) (by decide +kernel)), xl_aH htsA hgv, xl_aS htsA hgv, xl_aW htsA hgv⟩
  have h1 := htsA w hw
  cases w <;> first | (simp [xk_dc] at hd; done) | exact va_Nw.of rfl h1
