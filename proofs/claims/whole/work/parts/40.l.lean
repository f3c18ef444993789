section
variable {α β γ δ σ τ : Type} {u v w u' v' u0 v0 u1 v1 : xk_St} {T : List (Nat × List Nat × List Nat)} {F : List Nat} {G : List (Nat × Nat × Nat × Int64)} {n fu p q k j d b g m i t sz ix tc n0 id : Nat} {H H' : rH} {c : Nat × List Nat × List Nat} {e : Nat × Nat × Nat × Nat} {ms pl : List Nat} {W : List Nat}
theorem RS_app {x : Nat × Nat × Nat × Nat} (h : RS T H W u v) : RS T (H ++ [x]) W u v := ⟨h.1, h.2.1, h.2.2.1, fun i c hc => ⟨rv_app (h.2.2.2 i c hc).1, (h.2.2.2 i c hc).2⟩⟩
theorem RG_app {x : Nat × Nat × Nat × Nat} (h : RG T H G u v) : RG T (H ++ [x]) G u v := ⟨h.1, fun i a ha => rv_app (h.2 i a ha)⟩
theorem RD_mk (h : RD T F tc H G u v) (hu : yf_fr [27, 28, 30, 31, 32] [] [37, 39, 40, 41, 42, 43, 44, 45] [10, 12] u u') (hv : yf_fr [26, 29, 32, 33, 34] [] [29, 37, 38, 39, 40, 41, 42] [3, 5] v v') (hH : RHp T H' u' v') (hG : RG T H' G u' v') : RD T F tc H' G u' v' := by
  refine ⟨hH, hG, ?_, ?_⟩
  · obtain ⟨a1, p, mm, a2, a3, a4, a5, a6, a7, a8⟩ := h.2.2.1
    refine ⟨fun i hi => ?_, p, mm, ?_, ?_, ?_, ?_, a6, a7, fun i h1 h2 => by rw [hu.2.2.1 46 (by decide)]; exact a8 i h1 h2⟩
    · rw [hu.2.2.1 46 (by decide), hv.2.2.1 27 (by decide)]; exact a1 i hi
    · rw [hu.1 33 (by decide)]; exact a2
    · rw [hv.1 16 (by decide)]; exact a3
    · rw [hu.1 34 (by decide)]; exact a4
    · rw [hv.1 17 (by decide)]; exact a5
  · obtain ⟨a1, nn, a2, a3, a4, a5⟩ := h.2.2.2
    refine ⟨fun i hi => ?_, nn, a2, ?_, a4, ?_⟩
    · rw [hu.2.2.1 47 (by decide), hv.2.2.1 28 (by decide)]; exact a1 i hi
    · rw [hv.1 24 (by decide)]; exact a3
    · rw [hu.2.2.1 16 (by decide)]; exact a5
/-- the new object in its place -/
theorem nw_at {x : Nat × Nat × Nat × Nat} : (H ++ [x])[H.length]? = some x ∧ (H ++ [x]).take H.length = H := by
  refine ⟨by rw [List.getElem?_append_right (Nat.le_refl _), Nat.sub_self]; rfl, ?_⟩
  rw [List.take_append_of_le_length (Nat.le_refl _), List.take_of_length_le (Nat.le_refl _)]
/-- cells of the new object by the class -/
theorem nw_cell (hz : RHz T (H ++ [(id, ix, m, sz)]) u v) : (∀ i, fm_Heap_cellOf (nI id) (nI i) u = some (nI (hS H + 1 + i), u)) ∧ v.2.2.1 37 ix = nI (hS H + 1) ∧ 0 < id ∧ id ≤ 2000 ∧ ix ≤ 2000 ∧ hS H + 1 + sz ≤ 2000 := by
  obtain ⟨n1, n2⟩ := nw_at (H := H) (x := (id, ix, m, sz))
  obtain ⟨⟨b1, b2, b3⟩, -, ⟨q1, -⟩, -⟩ := hz.2.1 H.length _ n1
  have htop := hS_top n1
  rw [n2] at q1 htop
  refine ⟨fun i => ?_, q1, b1, b2, b3, by have := hz.1.2.2.1; have : hS H + 1 + sz ≤ _ := htop; omega⟩
  have := hp_cell (i := i) hz n1
  rw [n2] at this; exact this
/-- one part of the new object -/
theorem nw_step {s : Nat} {xm : Int64} {P : Nat → Nat → Prop} (hz : RHz T (H ++ [(id, ix, m, sz)]) u v) (ht : RHt T (H ++ [(id, ix, m, sz)]) (fun k i' => k < H.length ∨ i' < i) u v) (hi : i < sz) (hc : T[m]? = some c) (hd : pT c i = some d) (hd150 : d < 150) (hTM : yTM T v) (hs : s < 18000) (hr : rv T (H ++ [(id, ix, m, sz)]) (upk d) (u.2.2.2 10 s) (u.2.2.1 37 s) xm) : ∃ a ff bb, fm_Machine_setCell (nI (hS H + 1 + i)) (nI (yv_h d)) (nI s) u = some ((), uC u (hS H + 1 + i) a ff) ∧ fm_Model_packed (nI d) xm v = some (bb, v) ∧ RHz T (H ++ [(id, ix, m, sz)]) (uC u (hS H + 1 + i) a ff) (xs_B v 5 (hS H + 1 + i) bb) ∧ RHt T (H ++ [(id, ix, m, sz)]) (fun k i' => k < H.length ∨ i' < i + 1) (uC u (hS H + 1 + i) a ff) (xs_B v 5 (hS H + 1 + i) bb) := by
  obtain ⟨n1, n2⟩ := nw_at (H := H) (x := (id, ix, m, sz))
  have ht' : RHt T (H ++ [(id, ix, m, sz)]) (fun k i' => k < H.length ∨ (k = H.length ∧ i' < i)) u v := fun k e c i' d he hcc hP hi' hd' => ht k e c i' d he hcc (by rcases hP with q | q; exact Or.inl q; exact Or.inr q.2) hi' hd'
  have hst := ae_step (P := fun k i' => k < H.length ∨ (k = H.length ∧ i' < i)) (P' := fun k i' => k < H.length ∨ (k = H.length ∧ i' < i + 1)) (m := m) hz ht' n1 (show i < sz from hi) rfl hc hd hd150 hTM hs hr (fun k' i' hP => by
    rcases hP with q | q
    · exact Or.inl (Or.inl q)
    · by_cases qi : i' = i
      · exact Or.inr ⟨q.1, qi⟩
      · exact Or.inl (Or.inr ⟨q.1, by omega⟩))
  rw [n2] at hst
  obtain ⟨a, ff, bb, s1, s2, s3, s4⟩ := hst
  refine ⟨a, ff, bb, s1, s2, s3, fun k e c i' d he hcc hP hi' hd' => s4 k e c i' d he hcc ?_ hi' hd'⟩
  have hkl := yl_lt he
  rw [List.length_append, List.length_singleton] at hkl
  rcases hP with q | q
  · exact Or.inl q
  · by_cases qk : k < H.length
    · exact Or.inl qk
    · exact Or.inr ⟨by omega, q⟩
/-- fields of a new structure -/
theorem ns_loop (hc : T[m]? = some c) (h95 : c.1 = 95) (hsz : sz = c.2.1.length) (hm : m < 64) (hn : n0 + sz ≤ 18000) : ∀ (j i fn fm : Nat) (u v : xk_St), i + j = sz → j < fn → j < fm → yCe T u → yTM T v → u.1 28 = nI n0 → v.1 26 = nI n0 → RHz T (H ++ [(id, ix, m, sz)]) u v → RHt T (H ++ [(id, ix, m, sz)]) (fun k i' => k < H.length ∨ i' < i) u v → (∀ i' d, c.2.1[i']? = some d → rv T (H ++ [(id, ix, m, sz)]) (upk d) (u.2.2.2 10 (n0 + i')) (u.2.2.1 37 (n0 + i')) (v.2.2.2 3 (n0 + i'))) → ∃ u' v', jb_Machine_makeStructure_60 fu fn (nI m) (nI sz) (nI id) (nI i) u = jb_Machine_makeStructure_107 fu (nI id) u' ∧ jb_Model_newStructure_64 fu fm (nI m) (nI sz) (lN (2 * ix + 2)) (nI (hS H + 1)) (nI i) v = jb_Model_newStructure_113 fu (lN (2 * ix + 2)) v' ∧ yf_fr [] [] [39] [12] u u' ∧ yf_fr [] [] [] [5] v v' ∧ RHp T (H ++ [(id, ix, m, sz)]) u' v' := by
  intro j
  induction j with
  | zero =>
    intro i fn fm u v hij hfn hfm hCe hTM h28 h26 hz ht hr
    obtain ⟨fn, rfl⟩ : ∃ f, fn = f + 1 := ⟨fn - 1, by omega⟩
    obtain ⟨fm, rfl⟩ : ∃ f, fm = f + 1 := ⟨fm - 1, by omega⟩
    obtain ⟨-, -, -, -, -, hroom⟩ := nw_cell hz
    refine ⟨u, v, ?_, ?_, yf_refl, yf_refl, RHp_iff.mpr ⟨hz, fun k e c i' d he hcc _ hi' hd' => ht k e c i' d he hcc ?_ hi' hd'⟩⟩
    · unfold jb_Machine_makeStructure_60
      simp only [xs_let]
      rw [if_pos (nI_le (by omega) (by omega))]
    · unfold jb_Model_newStructure_64
      simp only [xs_let]
      rw [if_pos (nI_le (by omega) (by omega))]
    · rcases hl_app he with ⟨hkl, -⟩ | ⟨hkl, rfl⟩
      · exact Or.inl hkl
      · have hi' : i' < sz := hi'
        exact Or.inr (by omega)
  | succ j ih =>
    intro i fn fm u v hij hfn hfm hCe hTM h28 h26 hz ht hr
    obtain ⟨fn, rfl⟩ : ∃ f, fn = f + 1 := ⟨fn - 1, by omega⟩
    obtain ⟨fm, rfl⟩ : ∃ f, fm = f + 1 := ⟨fm - 1, by omega⟩
    obtain ⟨hcell, -, -, -, -, hroom⟩ := nw_cell hz
    obtain ⟨d, hd⟩ : ∃ d, c.2.1[i]? = some d := ⟨_, List.getElem?_eq_getElem (by omega)⟩
    have hdp : pT c i = some d := by unfold pT; rw [if_neg (by omega)]; exact hd
    have hd150 := (yCe_mv hCe hc hd).2.2.1
    obtain ⟨p7, hi16, -⟩ := yTM_p hTM hc hd
    obtain ⟨a, ff, bb, s1, s2, s3, s4⟩ := nw_step (P := fun _ _ => True) hz ht (by omega) hc hdp hd150 hTM (by omega) (hr i d hd)
    have hV : yf_fr [] [] [] [5] v (xs_B v 5 (hS H + 1 + i) bb) := yf_B yf_refl (by decide)
    obtain ⟨u', v', e1, e2, f1, f2, hH2⟩ := ih (i + 1) fn fm (uC u (hS H + 1 + i) a ff) (xs_B v 5 (hS H + 1 + i) bb) (by omega) (by omega) (by omega) (show yCe T u from hCe) (yTM_fr hTM hV (by decide)) h28 h26 s3 s4 hr
    refine ⟨u', v', ?_, ?_, yf_trans uC_f f1, yf_trans hV f2, hH2⟩
    · rw [← e1]
      conv => lhs; unfold jb_Machine_makeStructure_60
      simp only [xs_let]
      rw [if_neg (fun t => by have := (nI_leI (by omega) (by omega)).mp t; omega), hcell, ys_seq, yCe_m hCe hc hd, ys_seq, h28, nI_add, s1, ys_seq, nI_1]
    · rw [← e2]
      conv => lhs; unfold jb_Model_newStructure_64
      simp only [xs_let]
      rw [if_neg (fun t => by have := (nI_leI (by omega) (by omega)).mp t; omega), nI_32, if_neg (nI_in (N := 2048) (by omega) (by decide)), h26, nI_add, ix19 (by omega), show (nI (32 * m + i)).toNatClampNeg = 32 * m + i from nI_clamp (by omega), show (nI (n0 + i)).toNatClampNeg = n0 + i from nI_clamp (by omega), p7, s2, ys_seq, nI_add, ix2001 (by omega), show (nI (hS H + 1 + i)).toNatClampNeg = hS H + 1 + i from nI_clamp (by omega), nI_1]
/-- elements of a new array, all alike -/
theorem na_loop {xm : Int64} (hc : T[m]? = some c) (h94 : c.1 = 94) (hd : c.2.1[0]? = some d) (hm : m < 64) (hn : n0 < 18000) : ∀ (j i fn fm : Nat) (u v : xk_St), i + j = sz → j < fn → j < fm → yCe T u → yTM T v → u.1 28 = nI n0 → RHz T (H ++ [(id, ix, m, sz)]) u v → RHt T (H ++ [(id, ix, m, sz)]) (fun k i' => k < H.length ∨ i' < i) u v → rv T (H ++ [(id, ix, m, sz)]) (upk d) (u.2.2.2 10 n0) (u.2.2.1 37 n0) xm → ∃ u' v', jb_Machine_makeArray_94 fu fn (nI m) (lN sz) (nI id) (nI i) u = jb_Machine_makeArray_139 fu (nI id) u' ∧ jb_Model_newArray_174 fu fm (nI d) (lN sz) (lN (2 * ix + 2)) (nI (hS H + 1)) xm (nI i) v = jb_Model_newArray_204 fu (lN (2 * ix + 2)) v' ∧ yf_fr [] [] [39] [12] u u' ∧ yf_fr [] [] [] [5] v v' ∧ RHp T (H ++ [(id, ix, m, sz)]) u' v' := by
  intro j
  induction j with
  | zero =>
    intro i fn fm u v hij hfn hfm hCe hTM h28 hz ht hr
    obtain ⟨fn, rfl⟩ : ∃ f, fn = f + 1 := ⟨fn - 1, by omega⟩
    obtain ⟨fm, rfl⟩ : ∃ f, fm = f + 1 := ⟨fm - 1, by omega⟩
    obtain ⟨-, -, -, -, -, hroom⟩ := nw_cell hz
    refine ⟨u, v, ?_, ?_, yf_refl, yf_refl, RHp_iff.mpr ⟨hz, fun k e c i' d he hcc _ hi' hd' => ht k e c i' d he hcc ?_ hi' hd'⟩⟩
    · unfold jb_Machine_makeArray_94
      simp only [xs_let]
      rw [nI_toL (by omega), if_pos ((lN_le2 (by omega) (by omega)).mpr (by omega))]
    · unfold jb_Model_newArray_174
      simp only [xs_let]
      rw [nI_toL (by omega), if_pos ((lN_le2 (by omega) (by omega)).mpr (by omega))]
    · rcases hl_app he with ⟨hkl, -⟩ | ⟨hkl, rfl⟩
      · exact Or.inl hkl
      · have hi' : i' < sz := hi'
        exact Or.inr (by omega)
  | succ j ih =>
    intro i fn fm u v hij hfn hfm hCe hTM h28 hz ht hr
    obtain ⟨fn, rfl⟩ : ∃ f, fn = f + 1 := ⟨fn - 1, by omega⟩
    obtain ⟨fm, rfl⟩ : ∃ f, fm = f + 1 := ⟨fm - 1, by omega⟩
    obtain ⟨hcell, -, -, -, -, hroom⟩ := nw_cell hz
    have hdp : pT c i = some d := by unfold pT; rw [if_pos h94]; exact hd
    have hd150 := (yCe_mv hCe hc hd).2.2.1
    obtain ⟨a, ff, bb, s1, s2, s3, s4⟩ := nw_step (P := fun _ _ => True) hz ht (by omega) hc hdp hd150 hTM hn hr
    have hV : yf_fr [] [] [] [5] v (xs_B v 5 (hS H + 1 + i) bb) := yf_B yf_refl (by decide)
    have hmem : fm_Types_member (nI m) 0 u = some (nI (yv_h d), u) := yCe_m (i := 0) hCe hc hd
    obtain ⟨u', v', e1, e2, f1, f2, hH2⟩ := ih (i + 1) fn fm (uC u (hS H + 1 + i) a ff) (xs_B v 5 (hS H + 1 + i) bb) (by omega) (by omega) (by omega) (show yCe T u from hCe) (yTM_fr hTM hV (by decide)) h28 s3 s4 hr
    refine ⟨u', v', ?_, ?_, yf_trans uC_f f1, yf_trans hV f2, hH2⟩
    · rw [← e1]
      conv => lhs; unfold jb_Machine_makeArray_94
      simp only [xs_let]
      rw [nI_toL (by omega), if_neg (fun t => by have := (lN_le2 (by omega) (by omega)).mp t; omega), hcell, ys_seq, hmem, ys_seq, h28, s1, ys_seq, nI_1]
    · rw [← e2]
      conv => lhs; unfold jb_Model_newArray_174
      simp only [xs_let]
      rw [nI_toL (by omega), if_neg (fun t => by have := (lN_le2 (by omega) (by omega)).mp t; omega), s2, ys_seq, nI_add, ix2001 (by omega), show (nI (hS H + 1 + i)).toNatClampNeg = hS H + 1 + i from nI_clamp (by omega), nI_1]
/-- elements of a new array, each its own -/
theorem nf_loop (hc : T[m]? = some c) (h94 : c.1 = 94) (hd : c.2.1[0]? = some d) (hm : m < 64) (hn : n0 + sz ≤ 18000) : ∀ (j i fn fm : Nat) (u v : xk_St), i + j = sz → j < fn → j < fm → yCe T u → yTM T v → u.1 28 = nI n0 → v.1 26 = nI n0 → v.1 9 = 8 → RHz T (H ++ [(id, ix, m, sz)]) u v → RHt T (H ++ [(id, ix, m, sz)]) (fun k i' => k < H.length ∨ i' < i) u v → (∀ i', i' < sz → rv T (H ++ [(id, ix, m, sz)]) (upk d) (u.2.2.2 10 (n0 + i')) (u.2.2.1 37 (n0 + i')) (v.2.2.2 3 (n0 + i'))) → ∃ u' v', jb_Machine_makeArrayOf_54 fu fn (nI m) (nI sz) (nI id) (nI i) u = fm_Values_pushReference__h61 (nI id).toInt64 u' ∧ jb_Model_newArray_107 fu fm (nI d) (lN sz) (lN (2 * ix + 2)) (nI (hS H + 1)) (nI i) v = jb_Model_newArray_156 fu (nI d) (lN sz) (lN (2 * ix + 2)) (nI (hS H + 1)) v' ∧ yf_fr [] [] [39] [12] u u' ∧ yf_fr [] [] [] [5] v v' ∧ RHp T (H ++ [(id, ix, m, sz)]) u' v' := by
  intro j
  induction j with
  | zero =>
    intro i fn fm u v hij hfn hfm hCe hTM h28 h26 h9 hz ht hr
    obtain ⟨fn, rfl⟩ : ∃ f, fn = f + 1 := ⟨fn - 1, by omega⟩
    obtain ⟨fm, rfl⟩ : ∃ f, fm = f + 1 := ⟨fm - 1, by omega⟩
    obtain ⟨-, -, -, -, -, hroom⟩ := nw_cell hz
    refine ⟨u, v, ?_, ?_, yf_refl, yf_refl, RHp_iff.mpr ⟨hz, fun k e c i' d he hcc _ hi' hd' => ht k e c i' d he hcc ?_ hi' hd'⟩⟩
    · unfold jb_Machine_makeArrayOf_54
      simp only [xs_let]
      rw [if_pos (nI_le (by omega) (by omega)), xs_id]
    · unfold jb_Model_newArray_107
      simp only [xs_let]
      rw [nI_toL (by omega), if_pos ((lN_le2 (by omega) (by omega)).mpr (by omega))]
    · rcases hl_app he with ⟨hkl, -⟩ | ⟨hkl, rfl⟩
      · exact Or.inl hkl
      · have hi' : i' < sz := hi'
        exact Or.inr (by omega)
  | succ j ih =>
    intro i fn fm u v hij hfn hfm hCe hTM h28 h26 h9 hz ht hr
    obtain ⟨fn, rfl⟩ : ∃ f, fn = f + 1 := ⟨fn - 1, by omega⟩
    obtain ⟨fm, rfl⟩ : ∃ f, fm = f + 1 := ⟨fm - 1, by omega⟩
    obtain ⟨hcell, -, -, -, -, hroom⟩ := nw_cell hz
    have hdp : pT c i = some d := by unfold pT; rw [if_pos h94]; exact hd
    have hd150 := (yCe_mv hCe hc hd).2.2.1
    obtain ⟨a, ff, bb, s1, s2, s3, s4⟩ := nw_step (P := fun _ _ => True) hz ht (by omega) hc hdp hd150 hTM (by omega) (hr i (by omega))
    have hV : yf_fr [] [] [] [5] v (xs_B v 5 (hS H + 1 + i) bb) := yf_B yf_refl (by decide)
    have hmem : fm_Types_member (nI m) 0 u = some (nI (yv_h d), u) := yCe_m (i := 0) hCe hc hd
    obtain ⟨u', v', e1, e2, f1, f2, hH2⟩ := ih (i + 1) fn fm (uC u (hS H + 1 + i) a ff) (xs_B v 5 (hS H + 1 + i) bb) (by omega) (by omega) (by omega) (show yCe T u from hCe) (yTM_fr hTM hV (by decide)) h28 h26 h9 s3 s4 hr
    refine ⟨u', v', ?_, ?_, yf_trans uC_f f1, yf_trans hV f2, hH2⟩
    · rw [← e1]
      conv => lhs; unfold jb_Machine_makeArrayOf_54
      simp only [xs_let]
      rw [if_neg (fun t => by have := (nI_leI (by omega) (by omega)).mp t; omega), hcell, ys_seq, hmem, ys_seq, h28, nI_add, s1, ys_seq, nI_1]
    · rw [← e2]
      conv => lhs; unfold jb_Model_newArray_107
      simp only [xs_let]
      rw [nI_toL (by omega), if_neg (fun t => by have := (lN_le2 (by omega) (by omega)).mp t; omega), h9, if_pos rfl, h26, nI_add, ix19 (by omega), show (nI (n0 + i)).toNatClampNeg = n0 + i from nI_clamp (by omega), s2, ys_seq, nI_add, ix2001 (by omega), show (nI (hS H + 1 + i)).toNatClampNeg = hS H + 1 + i from nI_clamp (by omega), nI_1]
/-- a new object whose parts stay empty -/
theorem nw_zero (hTM : yTM T v) (hz : RHz T (H ++ [(id, ix, m, sz)]) u v) (ht : RHt T (H ++ [(id, ix, m, sz)]) (fun k _ => k < H.length) u v) (h0 : ∀ i, i < sz → u.2.2.2 12 (hS H + 1 + i) = 0 ∧ u.2.2.1 39 (hS H + 1 + i) = 0 ∧ v.2.2.2 5 (hS H + 1 + i) = 0) (hc : T[m]? = some c) (hdf : ∀ i d, pT c i = some d → i < sz → ydf d) : RHp T (H ++ [(id, ix, m, sz)]) u v := by
  obtain ⟨n1, n2⟩ := nw_at (H := H) (x := (id, ix, m, sz))
  refine RHp_iff.mpr ⟨hz, fun k e c' i d he hcc _ hi hd => ?_⟩
  rcases hl_app he with ⟨hkl, hek⟩ | ⟨hkl, rfl⟩
  · exact ht k e c' i d he hcc hkl hi hd
  · subst hkl
    have hi : i < sz := hi
    have hcc : T[m]? = some c' := hcc
    rw [hc] at hcc; cases hcc
    obtain ⟨a1, a2, a3⟩ := h0 i hi
    rw [n2, a1, a2, a3]
    have g := yTM_g hTM _ _ hc
    have hg : 0 < d ∧ d ≤ 149 ∧ (d = 1 ∨ d = 2 ∨ 16 ≤ d ∨ (¬ c.1 = 96 ∧ (d = 3 ∨ d = 4))) := by
      unfold pT at hd
      by_cases q : c.1 = 94
      · rw [if_pos q] at hd; exact g.2.1 0 d hd
      · rw [if_neg q] at hd; exact g.2.1 i d hd
    have hdd := hdf i d hd hi
    unfold upk
    by_cases q : d = 3 ∨ d = 4
    · rw [if_pos q]; exact rv_zero (Or.inl (by decide)) (Or.inl rfl)
    · rw [if_neg q]
      exact rv_zero hdd (by omega)
end
