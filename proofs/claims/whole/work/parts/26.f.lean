section
variable {α β γ δ : Type} {B : Nat → Int32} {u v w : xk_St} {L lim p q fu D : Nat} {e : Int32}
/-- what a section's content is, if it is there (where it begins and ends) -/
def yX (B : Nat → Int32) (it : Nat → Nat → (α × Nat) ⊕ Nat) (s : Option (Nat × Nat)) (l : List α) : Prop := match s with
  | none => l = []
  | some (p, e) => p ≤ e ∧ e ≤ 8192 ∧ yp_row B e (it e) p = .inl (l, e)
def yX8 (B : Nat → Int32) (s : Option (Nat × Nat)) (n : Option Nat) : Prop := match s with
  | none => n = none
  | some (p, e) => p ≤ e ∧ e ≤ 8192 ∧ ∃ m, n = some m ∧ yp_N B e p = .inl (m, e)
def yst_h (n : Option Nat) : Int32 := match n with
  | none => -1
  | some m => nI (yn_c m)
/-- the class's rows hold the module's sections -/
def yD1 (B : Nat → Int32) (s : Option (Nat × Nat)) (v : xk_St) : Prop := ∃ l, yX B (yp_tf B) s l ∧ v.1 7 = nI l.length ∧ yi_rows yk_ty l v
def yD3 (B : Nat → Int32) (s : Option (Nat × Nat)) (v : xk_St) : Prop := ∃ l, yX B (yp_N B) s l ∧ v.1 10 = nI l.length ∧ yi_rows (fun v k n => v.2.2.1 12 k = nI (yn_c n)) l v
def yD4 (B : Nat → Int32) (s : Option (Nat × Nat)) (v : xk_St) : Prop := ∃ l, yX B (yp_tab B) s l ∧ v.1 11 = nI l.length ∧ yi_rows (fun v k (a : Nat × Option Nat) => v.2.2.1 16 k = nI (yn_c a.1) ∧ v.2.2.1 17 k = nI (yl_2 a.2)) l v
def yD5 (B : Nat → Int32) (s : Option (Nat × Nat)) (v : xk_St) : Prop := ∃ l, yX B (yp_limits B) s l ∧ v.1 12 = nI l.length ∧ yi_rows (fun v k (a : Nat × Option Nat) => v.2.2.1 19 k = nI (yn_c a.1) ∧ v.2.2.1 20 k = nI (yl_2 a.2)) l v
def yD6 (B : Nat → Int32) (s : Option (Nat × Nat)) (v : xk_St) : Prop := ∃ l, yX B (yp_glo B) s l ∧ v.1 13 = nI l.length ∧ yi_rows yi_glo l v
def yD7 (B : Nat → Int32) (s : Option (Nat × Nat)) (v : xk_St) : Prop := ∃ l, yX B (yp_exp B) s l ∧ v.1 14 = nI l.length ∧ yi_rows yi_exp l v
def yD8 (B : Nat → Int32) (s : Option (Nat × Nat)) (v : xk_St) : Prop := ∃ n, yX8 B s n ∧ v.1 6 = yst_h n
def yD9 (B : Nat → Int32) (s : Option (Nat × Nat)) (v : xk_St) : Prop := ∃ l, yX B (yp_el B) s l ∧ v.1 15 = nI l.length ∧ yi_rows yi_el l v
def yD10 (D : Nat) (B : Nat → Int32) (s : Option (Nat × Nat)) (v : xk_St) : Prop := ∃ l, yX B (yp_body D B) s l ∧ v.1 5 = nI l.length ∧ yi_rows yi_bd l v
def yD11 (B : Nat → Int32) (s : Option (Nat × Nat)) (v : xk_St) : Prop := ∃ l, yX B (yp_da B) s l ∧ v.1 16 = nI l.length ∧ yi_rows yi_da l v
def yf_no (K L : List Nat) : Bool := K.all fun k => !L.contains k
theorem yf_nok {K L : List Nat} (h : yf_no K L = true) {k : Nat} (hk : k ∈ K) : k ∉ L := by
  have := List.all_eq_true.mp h k hk
  intro z
  rw [List.contains_iff_mem.mpr z] at this
  cases this
variable {I J A C : List Nat} {s : Option (Nat × Nat)}
theorem yD1K (h : yD1 B s v) (hf : yf_fr I J A C v w) (hd : (yf_no [7] I && yf_no [2, 3, 4, 6] A) = true) : yD1 B s w := by
  obtain ⟨l, h1, h2, h3⟩ := h
  have hd := Bool.and_eq_true_iff.mp hd
  refine ⟨l, h1, (hf.1 7 (yf_nok hd.1 (by simp))).trans h2, yi_keep h3 fun k c hP => ?_⟩
  obtain ⟨a, b, c, d, e⟩ := hP
  rw [← hf.2.2.1 2 (yf_nok hd.2 (by simp))] at a
  rw [← hf.2.2.1 3 (yf_nok hd.2 (by simp))] at b
  rw [← hf.2.2.1 4 (yf_nok hd.2 (by simp))] at c
  rw [← hf.2.2.1 6 (yf_nok hd.2 (by simp))] at d e
  exact ⟨a, b, c, d, e⟩
theorem yD3K (h : yD3 B s v) (hf : yf_fr I J A C v w) (hd : (yf_no [10] I && yf_no [12] A) = true) : yD3 B s w := by
  obtain ⟨l, h1, h2, h3⟩ := h
  have hd := Bool.and_eq_true_iff.mp hd
  refine ⟨l, h1, (hf.1 10 (yf_nok hd.1 (by simp))).trans h2, yi_keep h3 fun k c hP => ?_⟩
  rw [hf.2.2.1 12 (yf_nok hd.2 (by simp))]
  exact hP
theorem yD4K (h : yD4 B s v) (hf : yf_fr I J A C v w) (hd : (yf_no [11] I && yf_no [16, 17] A) = true) : yD4 B s w := by
  obtain ⟨l, h1, h2, h3⟩ := h
  have hd := Bool.and_eq_true_iff.mp hd
  refine ⟨l, h1, (hf.1 11 (yf_nok hd.1 (by simp))).trans h2, yi_keep h3 fun k c hP => ?_⟩
  rw [hf.2.2.1 16 (yf_nok hd.2 (by simp)), hf.2.2.1 17 (yf_nok hd.2 (by simp))]
  exact hP
theorem yD5K (h : yD5 B s v) (hf : yf_fr I J A C v w) (hd : (yf_no [12] I && yf_no [19, 20] A) = true) : yD5 B s w := by
  obtain ⟨l, h1, h2, h3⟩ := h
  have hd := Bool.and_eq_true_iff.mp hd
  refine ⟨l, h1, (hf.1 12 (yf_nok hd.1 (by simp))).trans h2, yi_keep h3 fun k c hP => ?_⟩
  rw [hf.2.2.1 19 (yf_nok hd.2 (by simp)), hf.2.2.1 20 (yf_nok hd.2 (by simp))]
  exact hP
theorem yD6K (h : yD6 B s v) (hf : yf_fr I J A C v w) (hd : (yf_no [13] I && yf_no [21, 22, 23] A && yf_no [6] C) = true) : yD6 B s w := by
  obtain ⟨l, h1, h2, h3⟩ := h
  have hd := Bool.and_eq_true_iff.mp hd
  have hd1 := Bool.and_eq_true_iff.mp hd.1
  refine ⟨l, h1, (hf.1 13 (yf_nok hd1.1 (by simp))).trans h2, yi_keep h3 fun k c hP => ?_⟩
  obtain ⟨a, b, c, d⟩ := hP
  rw [← hf.2.2.1 21 (yf_nok hd1.2 (by simp))] at a
  rw [← hf.2.2.1 22 (yf_nok hd1.2 (by simp))] at b
  rw [← hf.2.2.1 23 (yf_nok hd1.2 (by simp))] at c
  rw [← hf.2.2.2 6 (yf_nok hd.2 (by simp))] at d
  exact ⟨a, b, c, d⟩
theorem yD7K (h : yD7 B s v) (hf : yf_fr I J A C v w) (hd : (yf_no [14] I && yf_no [24, 25, 26] A && yf_no [7] C) = true) : yD7 B s w := by
  obtain ⟨l, h1, h2, h3⟩ := h
  have hd := Bool.and_eq_true_iff.mp hd
  have hd1 := Bool.and_eq_true_iff.mp hd.1
  refine ⟨l, h1, (hf.1 14 (yf_nok hd1.1 (by simp))).trans h2, yi_keep h3 fun k c hP => ?_⟩
  obtain ⟨a, b, c, d⟩ := hP
  rw [← hf.2.2.1 25 (yf_nok hd1.2 (by simp))] at a
  rw [← hf.2.2.1 26 (yf_nok hd1.2 (by simp))] at b
  rw [← hf.2.2.1 24 (yf_nok hd1.2 (by simp))] at c
  rw [← hf.2.2.2 7 (yf_nok hd.2 (by simp))] at d
  exact ⟨a, b, c, d⟩
theorem yD8K (h : yD8 B s v) (hf : yf_fr I J A C v w) (hd : yf_no [6] I = true) : yD8 B s w := by
  obtain ⟨l, h1, h2⟩ := h
  exact ⟨l, h1, (hf.1 6 (yf_nok hd (by simp))).trans h2⟩
theorem yD9K (h : yD9 B s v) (hm : yi_mono v w) (hf : yf_fr I J A C v w) (hd : (yf_no [15] I && yf_no [28, 29] A && yf_no [8] C) = true) : yD9 B s w := by
  obtain ⟨l, h1, h2, h3⟩ := h
  have hd := Bool.and_eq_true_iff.mp hd
  have hd1 := Bool.and_eq_true_iff.mp hd.1
  refine ⟨l, h1, (hf.1 15 (yf_nok hd1.1 (by simp))).trans h2, yi_keep h3 fun k c hP => yi_elK hP hm ?_ ?_ ?_⟩
  · rw [hf.2.2.1 28 (yf_nok hd1.2 (by simp))]
  · rw [hf.2.2.1 29 (yf_nok hd1.2 (by simp))]
  · rw [hf.2.2.2 8 (yf_nok hd.2 (by simp))]
theorem yD10K (h : yD10 D B s v) (hm : yk_add v w) (hf : yf_fr I J A C v w) (hd : (yf_no [5] I && yf_no [13] A) = true) : yD10 D B s w := by
  obtain ⟨l, h1, h2, h3⟩ := h
  have hd := Bool.and_eq_true_iff.mp hd
  refine ⟨l, h1, (hf.1 5 (yf_nok hd.1 (by simp))).trans h2, yi_keep h3 fun k c hP => yi_bdK hP hm ?_⟩
  rw [hf.2.2.1 13 (yf_nok hd.2 (by simp))]
theorem yD11K (h : yD11 B s v) (hf : yf_fr I J A C v w) (hd : (yf_no [16] I && yf_no [31, 32] A && yf_no [9] C) = true) : yD11 B s w := by
  obtain ⟨l, h1, h2, h3⟩ := h
  have hd := Bool.and_eq_true_iff.mp hd
  have hd1 := Bool.and_eq_true_iff.mp hd.1
  refine ⟨l, h1, (hf.1 16 (yf_nok hd1.1 (by simp))).trans h2, yi_keep h3 fun k c hP => ?_⟩
  obtain ⟨a, b, c⟩ := hP
  rw [← hf.2.2.2 9 (yf_nok hd.2 (by simp))] at a
  rw [← hf.2.2.1 31 (yf_nok hd1.2 (by simp))] at b
  rw [← hf.2.2.1 32 (yf_nok hd1.2 (by simp))] at c
  exact ⟨a, b, c⟩
/-- numbers and entries stay as they are -/
theorem yi_mono_of (h : yi_few v) (hf : yf_fr I J A C v w) (hd : (yf_no [9] I && yf_no [11] A) = true) : yi_mono v w := by
  obtain ⟨ns, sz, p', a, b, d, d4, d5, d6⟩ := h
  have hd := Bool.and_eq_true_iff.mp hd
  exact ⟨ns, ns, a, (hf.1 9 (yf_nok hd.1 (by simp))).trans a, Nat.le_refl _, by omega, fun i _ => by rw [hf.2.2.1 11 (yf_nok hd.2 (by simp))]⟩
theorem yk_add_of (h : yi_few v) (hm : yi_mono v w) (hf : yf_fr I J A C v w) (hd : (yf_no [8] I && yf_no [7, 8, 9] A && yf_no [2] C) = true) : yk_add v w := by
  obtain ⟨ns, sz, p', a, b, d, d4, d5, d6⟩ := h
  have hd := Bool.and_eq_true_iff.mp hd
  have hd1 := Bool.and_eq_true_iff.mp hd.1
  refine ⟨sz, sz, b, (hf.1 8 (yf_nok hd1.1 (by simp))).trans b, Nat.le_refl _, by omega, fun j _ => ?_, hm⟩
  rw [hf.2.2.1 7 (yf_nok hd1.2 (by simp)), hf.2.2.1 8 (yf_nok hd1.2 (by simp)), hf.2.2.1 9 (yf_nok hd1.2 (by simp)), hf.2.2.2 2 (yf_nok hd.2 (by simp))]
  exact ⟨rfl, rfl, rfl, fun _ => rfl⟩
theorem yi_few_of (h : yi_few v) (hv : yh_st B lim p v) (hw : yh_st B lim q w) (hpq : p ≤ q) (hf : yf_fr I J A C v w) (hd : yf_no [8, 9] I = true) : yi_few w := by
  obtain ⟨ns, sz, p', a, b, d, d4, d5, d6⟩ := h
  have hp' : p' = p := (nI_eq (by omega) (by have := hv.2.2.2; omega)).mp (d.symm.trans hv.2.1)
  exact ⟨ns, sz, q, (hf.1 9 (yf_nok hd (by simp))).trans a, (hf.1 8 (yf_nok hd (by simp))).trans b, hw.2.1, by omega, by omega, by have := hw.2.2.2; omega⟩
/-- the bodies' rows of numbers lie behind those of the elements -/
def yE (D : Nat) (B : Nat → Int32) (S : Nat → Option (Nat × Nat)) (v : xk_St) : Prop := (S 10 = none → v.1 8 = 0) ∧ (¬ S 10 = none → ∃ N0, yW N0 v ∧ ∀ l, yX B (yp_el B) (S 9) l → ∀ (k s : Nat) c, k < 64 → l[k]? = some c → v.2.2.1 28 k = nI s → s ≤ 8192 → s + c.2.length ≤ N0) ∧ (¬ S 10 = none → ∃ n, yV n v ∧ ∀ l, yX B (yp_body D B) (S 10) l → l.length = n)
theorem yV_fr {n : Nat} (h : yV n v) (hf : yf_fr I J A C v w) (hd : (yf_no [8] I && yf_no [13] A) = true) : yV n w := by
  have hd := Bool.and_eq_true_iff.mp hd
  unfold yV
  rw [hf.1 8 (yf_nok hd.1 (by simp)), hf.2.2.1 13 (yf_nok hd.2 (by simp))]
  exact h
theorem yW_fr {N0 : Nat} (h : yW N0 v) (hf : yf_fr I J A C v w) (hd : (yf_no [8, 9] I && yf_no [7, 8] A && yf_no [2] C) = true) : yW N0 w := by
  have hd := Bool.and_eq_true_iff.mp hd
  have hd1 := Bool.and_eq_true_iff.mp hd.1
  unfold yW
  rw [hf.1 8 (yf_nok hd1.1 (by simp)), hf.1 9 (yf_nok hd1.1 (by simp)), hf.2.2.1 7 (yf_nok hd1.2 (by simp)), hf.2.2.1 8 (yf_nok hd1.2 (by simp)), hf.2.2.2 2 (yf_nok hd.2 (by simp))]
  exact h
theorem yE_fr {S : Nat → Option (Nat × Nat)} (h : yE D B S v) (hf : yf_fr I J A C v w) (hd : (yf_no [8, 9] I && yf_no [7, 8] A && yf_no [2] C) = true) (hd2 : yf_no [28, 13] A = true) : yE D B S w := by
  have hd' := Bool.and_eq_true_iff.mp hd
  have hd1 := Bool.and_eq_true_iff.mp hd'.1
  refine ⟨fun z => (hf.1 8 (yf_nok hd1.1 (by simp))).trans (h.1 z), fun z => ?_, fun z => ?_⟩
  · obtain ⟨N0, h1, h2⟩ := h.2.1 z
    refine ⟨N0, yW_fr h1 hf hd, ?_⟩
    rw [hf.2.2.1 28 (yf_nok hd2 (by simp))]
    exact h2
  · obtain ⟨n, h1, h2⟩ := h.2.2 z
    refine ⟨n, yV_fr h1 hf (Bool.and_eq_true_iff.mpr ⟨?_, ?_⟩), h2⟩
    · exact List.all_eq_true.mpr fun k hk => List.all_eq_true.mp hd1.1 k (by simp at hk ⊢; omega)
    · exact List.all_eq_true.mpr fun k hk => List.all_eq_true.mp hd2 k (by simp at hk ⊢; omega)
/-- the whole module as the class has it; S: where the sections lie -/
def yDall (D : Nat) (B : Nat → Int32) (S : Nat → Option (Nat × Nat)) (v : xk_St) : Prop := yD1 B (S 1) v ∧ yD3 B (S 3) v ∧ yD4 B (S 4) v ∧ yD5 B (S 5) v ∧ yD6 B (S 6) v ∧ yD7 B (S 7) v ∧ yD8 B (S 8) v ∧ yD9 B (S 9) v ∧ yD10 D B (S 10) v ∧ yD11 B (S 11) v ∧ yi_few v ∧ yE D B S v
def yS_up (S : Nat → Option (Nat × Nat)) (id p e : Nat) : Nat → Option (Nat × Nat) := fun j => if j = id then some (p, e) else S j
/-- a section's content -/
def yp_cont (D : Nat) (B : Nat → Int32) (id lim p : Nat) : (Unit × Nat) ⊕ Nat :=
  if id = 0 then .inl ((), lim) else if id = 1 then yp_map (fun _ => ()) (yp_row B lim (yp_tf B lim) p) else if id = 3 then yp_map (fun _ => ()) (yp_row B lim (yp_N B lim) p) else if id = 4 then yp_map (fun _ => ()) (yp_row B lim (yp_tab B lim) p) else if id = 5 then yp_map (fun _ => ()) (yp_row B lim (yp_limits B lim) p) else if id = 6 then yp_map (fun _ => ()) (yp_row B lim (yp_glo B lim) p) else if id = 7 then yp_map (fun _ => ()) (yp_row B lim (yp_exp B lim) p) else if id = 8 then yp_map (fun _ => ()) (yp_N B lim p) else if id = 9 then yp_map (fun _ => ()) (yp_row B lim (yp_el B lim) p) else if id = 10 then yp_map (fun _ => ()) (yp_row B lim (yp_body D B lim) p) else yp_map (fun _ => ()) (yp_row B lim (yp_da B lim) p)
/-- sections: number, where the content begins and ends -/
def yp_secs (D : Nat) (B : Nat → Int32) (len : Nat) : Nat → Nat → Nat → (List (Nat × Nat × Nat) × Nat) ⊕ Nat
  | 0, _, _ => .inr 0
  | d + 1, last, p => if len ≤ p then .inl ([], p) else yp_then (yp_byte B len p) fun b q => if b.toNatClampNeg = 0 ∨ (last < b.toNatClampNeg ∧ ¬ b.toNatClampNeg = 2 ∧ b.toNatClampNeg ≤ 11) then
      yp_then (yp_N B len q) fun n r => if n ≤ len - r then yp_then (yp_cont D B b.toNatClampNeg (r + n) r) fun _ e => if e = r + n then yp_then (yp_secs D B len d (max last b.toNatClampNeg) e) fun l z => .inl ((b.toNatClampNeg, r, e) :: l, z) else .inr 0 else .inr 0
      else .inr 0
def yS_ext (S : Nat → Option (Nat × Nat)) : List (Nat × Nat × Nat) → Nat → Option (Nat × Nat)
  | [] => S
  | x :: r => yS_ext (yS_up S x.1 x.2.1 x.2.2) r
end
