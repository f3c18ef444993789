section
variable {α β γ δ σ τ : Type} {u v w u' v' u0 v0 u1 v1 : xk_St} {T : List (Nat × List Nat × List Nat)} {F : List Nat} {G : List (Nat × Nat × Nat × Int64)} {n fu p q k j d b g m i t sz ix tc : Nat} {H H' : rH} {c : Nat × List Nat × List Nat} {e : Nat × Nat × Nat × Nat} {ms pl : List Nat} {W : List Nat}
theorem rv_app {cc : Nat} {x : Nat × Nat × Nat × Nat} {xh xm : Int64} {fh : Int32} (h : rv T H cc xh fh xm) : rv T (H ++ [x]) cc xh fh xm := by
  rcases h with h | h | ⟨h16, h150, hr⟩
  · exact Or.inl h
  · exact Or.inr (Or.inl h)
  · refine Or.inr (Or.inr ⟨h16, h150, ?_⟩)
    rcases hr with r | r | ⟨rf, k0, e0, r2, r⟩
    · exact Or.inl r
    · exact Or.inr (Or.inl r)
    · exact Or.inr (Or.inr ⟨rf, k0, e0, by rw [List.getElem?_append_left (yl_lt r2)]; exact r2, r⟩)
theorem hl_app {x : Nat × Nat × Nat × Nat} (h : (H ++ [x])[k]? = some e) : (k < H.length ∧ H[k]? = some e) ∨ (k = H.length ∧ e = x) := by
  by_cases q : k < H.length
  · rw [List.getElem?_append_left q] at h; exact Or.inl ⟨q, h⟩
  · have := yl_lt h
    rw [List.length_append, List.length_singleton] at this
    rw [List.getElem?_append_right (by omega), show k - H.length = 0 by omega] at h
    cases h
    exact Or.inr ⟨by omega, rfl⟩
/-- a new object behind the others, on both sides: its parts are empty yet -/
theorem hm_new (hfu : 18000 < fu) (hz : RHz T H u v) (ht : RHt T H (fun _ _ => True) u v) (hc : T[m]? = some c) (hk : c.1 = 94 ∨ (c.1 = 95 ∧ sz = c.2.1.length)) (hsz : hS H + 1 + sz ≤ 2000) : ∃ id ix u' v', jb_Heap_make_41 fu (nI (yl_f T m)) (lN sz) u = some (nI id, u') ∧ jb_Model_made_63 fu fu (nI m) (lN sz) 0 v = some (lN (2 * ix + 2), v') ∧ yf_fr [30, 32] [] [39, 40, 41, 42] [12] u u' ∧ yf_fr [32, 34] [] [37, 38, 39, 42] [5] v v' ∧ RHz T (H ++ [(id, ix, m, sz)]) u' v' ∧ RHt T (H ++ [(id, ix, m, sz)]) (fun k _ => k < H.length) u' v' ∧ ∀ i, i < sz → u'.2.2.2 12 (hS H + 1 + i) = 0 ∧ u'.2.2.1 39 (hS H + 1 + i) = 0 ∧ v'.2.2.2 5 (hS H + 1 + i) = 0 := by
  obtain ⟨⟨s1, s2, s3, s4⟩, h2, h3, ⟨mm, m1, m2, q, q1, q2⟩, h5, h6⟩ := hz
  have hlen : ∀ l : rH, l.length ≤ hS l := by
    intro l
    induction l with
    | nil => exact Nat.le_refl _
    | cons x r ih => show r.length + 1 ≤ 1 + x.2.2.2 + hS r; omega
  have hHl := hlen H
  obtain ⟨m', rfl⟩ : ∃ m', mm = m' + 1 := ⟨mm - 1, by omega⟩
  obtain ⟨g1, g2, g3, g4⟩ := q1 m' (by omega)
  obtain ⟨u', a1, a2, a3, a4, a5, a6, a7, a8, a9, a10⟩ := hm_41 (fu := fu) (a := nI (yl_f T m)) (by omega) s1 m1 g1 (by omega) ⟨g2, g3⟩ hsz
  obtain ⟨x0, x1, x2⟩ := ph_free (n := 2001) (l := H.map fun e => e.2.1) (by rw [List.length_map]; omega)
  have hx38 : v.2.2.1 38 (0 + x0) = -1 := by
    rw [Nat.zero_add]
    rcases h5 x0 x1 with ⟨k, e, k1, k2⟩ | t
    · exact absurd (List.mem_map.mpr ⟨e, List.mem_of_getElem? k1, k2⟩) x2
    · exact t
  obtain ⟨ix, i1, i2, i3⟩ := mm_63 (fu := fu) (b1 := nI m) (b2 := lN sz) s2 x0 0 fu (by omega) (by omega) hx38
  rw [sb_nLi (by omega)] at i3
  obtain ⟨ve, c1, c2, c3, c4⟩ := mm_113 (fu := fu) (p := hS H) (sz := sz) (b := H.length) (ix := ix) hsz (by omega) i1 sz 0 fu (xs_A (xs_A (xs_A v 37 ix (nI (hS H + 1))) 38 ix (nI sz)) 39 ix (nI m)) (by omega) (by omega) s2 s4
  have i3' : jb_Model_made_63 fu fu (nI m) (lN sz) 0 v = _ := i3
  have c1' : jb_Model_made_113 fu fu (lN sz) (nI ix) 0 (xs_A (xs_A (xs_A v 37 ix (nI (hS H + 1))) 38 ix (nI sz)) 39 ix (nI m)) = _ := c1
  have hixn : ∀ (k : Nat) e, H[k]? = some e → ¬ e.2.1 = ix := fun k e he t => by
    obtain ⟨-, -, ⟨p1, p2, p3, p4⟩, -⟩ := h2 k e he
    rw [t, i2] at p2
    have hsz2 : e.2.2.2 ≤ 2000 := by have := hS_top he; omega
    have := congrArg Int32.toInt p2
    rw [pkT32 (by omega)] at this
    have : (-1 : Int) = (e.2.2.2 : Int) := this
    omega
  have hidn : ∀ (k : Nat) e, H[k]? = some e → ¬ e.1 = q m' := g4
  have htk : ∀ k, k ≤ H.length → ∀ x : Nat × Nat × Nat × Nat, (H ++ [x]).take k = H.take k := fun k hk x => List.take_append_of_le_length hk
  have hfull : H.take H.length = H := List.take_of_length_le (Nat.le_refl _)
  have hVf : yf_fr [32, 34] [] [37, 38, 39, 42] [5] v (xs_I (xs_A (xs_I ve 32 (nI (hS H + (1 + sz)))) 42 H.length (nI ix)) 34 (nI (H.length + 1))) := yf_I (yf_A (yf_I (yf_trans (yf_A (yf_A (yf_A yf_refl (by decide)) (by decide)) (by decide)) (yf_mono c2 (by decide))) (by decide)) (by decide)) (by decide)
  have v37 : ∀ x, ve.2.2.1 37 x = upd (v.2.2.1 37) ix (nI (hS H + 1)) x := fun x => by rw [c2.2.2.1 37 (by simp)]; rfl
  have v38 : ∀ x, ve.2.2.1 38 x = upd (v.2.2.1 38) ix (nI sz) x := fun x => by rw [c2.2.2.1 38 (by simp)]; rfl
  have v39 : ∀ x, ve.2.2.1 39 x = upd (v.2.2.1 39) ix (nI m) x := fun x => by rw [c2.2.2.1 39 (by simp)]; rfl
  have v42 : ∀ x, ve.2.2.1 42 x = v.2.2.1 42 x := fun x => by rw [c2.2.2.1 42 (by simp)]; rfl
  have hSn : hS (H ++ [(q m', ix, m, sz)]) = hS H + 1 + sz := by
    rw [hS_app]
    have : hS [(q m', ix, m, sz)] = 1 + sz + 0 := rfl
    omega
  refine ⟨q m', ix, u', _, a1, by rw [i3', c1'], a2, hVf, ⟨⟨?_, ?_, by omega, ?_⟩, fun k e he => ?_, fun k k' e e' he he' hee => ?_, ⟨m', a3, by rw [List.length_append, List.length_singleton]; omega, q, fun i hi => ?_, fun i j hi hj => q2 i j (by omega) (by omega)⟩, fun i hi => ?_, fun i hi => ?_⟩, fun k e c i d he hcc hP hi hd => ?_, fun i hi => ?_⟩
  · rw [hSn]; exact a4
  · rw [hSn]
    show nI (hS H + (1 + sz)) = _
    rw [show hS H + (1 + sz) = hS H + 1 + sz by omega]
  · show nI (H.length + 1) = nI (H ++ [(q m', ix, m, sz)]).length
    rw [List.length_append, List.length_singleton]
  · rcases hl_app he with ⟨hkl, hek⟩ | ⟨hkl, rfl⟩
    · obtain ⟨b1, ⟨o1, o2, o3, o4, o5⟩, ⟨p1, p2, p3, p4⟩, hcc⟩ := h2 k e hek
      have htop := hS_top hek
      rw [htk k (by omega)]
      refine ⟨b1, ⟨?_, ?_, ?_, ?_, ?_⟩, ⟨?_, ?_, ?_, ?_⟩, hcc⟩
      · rw [a5, if_neg (hidn k e hek)]; exact o1
      · rw [a6, if_neg (hidn k e hek)]; exact o2
      · rw [a7, if_neg (hidn k e hek)]; exact o3
      · rw [(a8 _ (by omega)).1]; exact o4
      · rw [(a8 _ (by omega)).2]; exact o5
      · show ve.2.2.1 37 e.2.1 = _
        rw [v37, ya_j (hixn k e hek)]; exact p1
      · show ve.2.2.1 38 e.2.1 = _
        rw [v38, ya_j (hixn k e hek)]; exact p2
      · show ve.2.2.1 39 e.2.1 = _
        rw [v39, ya_j (hixn k e hek)]; exact p3
      · show upd (ve.2.2.1 42) H.length (nI ix) k = _
        rw [ya_j (by omega), v42]; exact p4
    · subst hkl
      rw [htk _ (Nat.le_refl _), hfull]
      refine ⟨⟨g2, g3, i1⟩, ⟨?_, ?_, ?_, a9.1, a9.2⟩, ⟨?_, ?_, ?_, ?_⟩, c, hc, hk⟩
      · rw [a5, if_pos rfl]
      · rw [a6, if_pos rfl]
      · rw [a7, if_pos rfl]
      · show ve.2.2.1 37 ix = _
        rw [v37, ya_t]
      · show ve.2.2.1 38 ix = _
        rw [v38, ya_t]
      · show ve.2.2.1 39 ix = _
        rw [v39, ya_t]
      · show upd (ve.2.2.1 42) H.length (nI ix) H.length = _
        rw [ya_t]
  · rcases hl_app he with ⟨hkl, hek⟩ | ⟨hkl, rfl⟩
    · rcases hl_app he' with ⟨hkl', hek'⟩ | ⟨hkl', rfl⟩
      · exact h3 k k' e e' hek hek' hee
      · rcases hee with t | t
        · exact absurd t (hidn k e hek)
        · exact absurd t (hixn k e hek)
    · rcases hl_app he' with ⟨hkl', hek'⟩ | ⟨hkl', rfl⟩
      · rcases hee with t | t
        · exact absurd t.symm (hidn k' e' hek')
        · exact absurd t.symm (hixn k' e' hek')
      · omega
  · obtain ⟨x1, x2, x3, x4⟩ := q1 i (by omega)
    refine ⟨by rw [a2.2.2.1 44 (by decide)]; exact x1, x2, x3, fun k e he => ?_⟩
    rcases hl_app he with ⟨hkl, hek⟩ | ⟨hkl, rfl⟩
    · exact x4 k e hek
    · intro t
      have := q2 m' i (by omega) (by omega) t
      omega
  · show _ ∨ ve.2.2.1 38 i = -1
    by_cases qi : i = ix
    · exact Or.inl ⟨H.length, (q m', ix, m, sz), by rw [List.getElem?_append_right (Nat.le_refl _), Nat.sub_self]; rfl, qi.symm⟩
    · rw [v38, ya_j qi]
      rcases h5 i hi with ⟨k, e, k1, k2⟩ | t
      · exact Or.inl ⟨k, e, by rw [List.getElem?_append_left (yl_lt k1)]; exact k1, k2⟩
      · exact Or.inr t
  · rw [a2.2.2.1 43 (by decide)]; exact h6 i hi
  · have hkl : k < H.length := hP
    rcases hl_app he with ⟨-, hek⟩ | ⟨hkl', -⟩
    · have htop := hS_top hek
      rw [htk k (by omega), (a8 _ (by omega)).1, (a8 _ (by omega)).2]
      show rv T _ (upk d) _ _ (ve.2.2.2 5 (hS (H.take k) + 1 + i))
      rw [c4 _ (by omega)]
      exact rv_app (ht k e c i d hek hcc trivial hi hd)
    · omega
  · refine ⟨(a10 _ (by omega) (by omega)).1, (a10 _ (by omega) (by omega)).2, ?_⟩
    show ve.2.2.2 5 _ = 0
    exact c3 _ (by omega) (by omega)
/-- an object is made, or there is no room: on both sides -/
theorem hm_make (hfu : 18000 < fu) (hTM : yTM T v) (hRS : RS T H W u v) (hRD : RD T F tc H G u v) (hG : G.length ≤ 64) (h14 : ∀ (k : Nat) a, G[k]? = some a → v.2.2.1 14 k = nI a.1 ∧ a.1 < 150) (h18 : v.1 18 = nI G.length) (h29 : v.1 29 = 0) (hc : T[m]? = some c) (hk : c.1 = 94 ∨ (c.1 = 95 ∧ sz = c.2.1.length)) (hsz : sz < 2 ^ 32) : ∃ u' v' H', yf_fr [30, 31, 32] [] [39, 40, 41, 42, 43, 44, 45] [12] u u' ∧ yf_fr [29, 32, 33, 34] [] [37, 38, 39, 40, 41, 42] [5] v v' ∧ RS T H' W u' v' ∧ RG T H' G u' v' ∧ ((fm_Heap_make fu (nI (yl_f T m)) (lN sz) u = some (0, u') ∧ fm_Model_made fu (nI m) (lN sz) v = some (0, v') ∧ v'.1 29 = 11 ∧ RHp T H' u' v') ∨ ∃ id ix, fm_Heap_make fu (nI (yl_f T m)) (lN sz) u = some (nI id, u') ∧ fm_Model_made fu (nI m) (lN sz) v = some (lN (2 * ix + 2), v') ∧ v'.1 29 = 0 ∧ hS H' + 1 + sz ≤ 2000 ∧ RHz T (H' ++ [(id, ix, m, sz)]) u' v' ∧ RHt T (H' ++ [(id, ix, m, sz)]) (fun k _ => k < H'.length) u' v' ∧ ∀ i, i < sz → u'.2.2.2 12 (hS H' + 1 + i) = 0 ∧ u'.2.2.1 39 (hS H' + 1 + i) = 0 ∧ v'.2.2.2 5 (hS H' + 1 + i) = 0) := by
  have key : ∀ (H1 : rH) (u1 v1 : xk_St), yf_fr [30, 31, 32] [] [39, 40, 41, 42, 43, 44, 45] [12] u u1 → yf_fr [29, 32, 33, 34] [] [37, 38, 39, 40, 41, 42] [5] v v1 → RHp T H1 u1 v1 → RS T H1 W u1 v1 → RG T H1 G u1 v1 → v1.1 29 = 0 → hS H1 + 1 + sz ≤ 2000 → ∃ u' v', yf_fr [30, 31, 32] [] [39, 40, 41, 42, 43, 44, 45] [12] u u' ∧ yf_fr [29, 32, 33, 34] [] [37, 38, 39, 40, 41, 42] [5] v v' ∧ RS T H1 W u' v' ∧ RG T H1 G u' v' ∧ ∃ id ix, jb_Heap_make_41 fu (nI (yl_f T m)) (lN sz) u1 = some (nI id, u') ∧ jb_Model_made_28 fu (nI m) (lN sz) v1 = some (lN (2 * ix + 2), v') ∧ v'.1 29 = 0 ∧ hS H1 + 1 + sz ≤ 2000 ∧ RHz T (H1 ++ [(id, ix, m, sz)]) u' v' ∧ RHt T (H1 ++ [(id, ix, m, sz)]) (fun k _ => k < H1.length) u' v' ∧ ∀ i, i < sz → u'.2.2.2 12 (hS H1 + 1 + i) = 0 ∧ u'.2.2.1 39 (hS H1 + 1 + i) = 0 ∧ v'.2.2.2 5 (hS H1 + 1 + i) = 0 := by
    intro H1 u1 v1 hu hv hH1 hRS1 hRG1 hv29 hroom
    obtain ⟨hz, ht⟩ := RHp_iff.mp hH1
    obtain ⟨id, ix, u', v', a1, a2, a3, a4, a5, a6, a7⟩ := hm_new hfu hz ht hc hk hroom
    refine ⟨u', v', yf_trans hu (yf_mono a3 (by decide)), yf_trans hv (yf_mono a4 (by decide)), RS_fv (RS_fu hRS1 a3 (by decide)) a4 (by decide), ?_, id, ix, a1, ?_, by rw [a4.1 29 (by decide)]; exact hv29, hroom, a5, a6, a7⟩
    · refine ⟨by rw [a3.1 29 (by decide)]; exact hRG1.1, fun k a hk => ?_⟩
      rw [a3.2.2.2 11 (by decide), a3.2.2.1 38 (by decide), a4.2.2.2 2 (by decide)]
      exact hRG1.2 k a hk
    · unfold jb_Model_made_28
      rw [if_neg (show ¬ (2000 : Int64) < lN sz from fun t => by have := (pk_lLT (a := 2000) (b := sz) (by omega) (by omega)).mp t; omega), hz.1.2.1, nI_toL (by omega), show (1 : Int64) = lN 1 from rfl, lN_add2 (by omega) (by omega), lN_add2 (by omega) (by omega), if_pos (show lN (hS H1 + 1 + sz) ≤ (2000 : Int64) from (lN_le2 (b := 2000) (by omega) (by omega)).mpr hroom)]
      exact a2
  have hz := (RHp_iff.mp hRD.1).1
  have h2000 := hz.1.2.2.1
  have eH : fm_Heap_make fu (nI (yl_f T m)) (lN sz) u = if hS H + 1 + sz ≤ 2000 then jb_Heap_make_41 fu (nI (yl_f T m)) (lN sz) u else xs_seq (fm_Heap_collect fu u) fun a8 u9 => if (((a8 + (1 : Int32)).toInt64) + lN sz) ≤ (2000 : Int64) then (jb_Heap_make_41 fu (nI (yl_f T m)) (lN sz) u9) else (some ((0 : Int32), u9)) := by
    unfold fm_Heap_make
    rw [hz.1.1, nI_1, nI_toL (by omega), lN_add2 (by omega) (by omega)]
    by_cases q : hS H + 1 + sz ≤ 2000
    · rw [if_pos q, if_pos (show lN (hS H + 1 + sz) ≤ (2000 : Int64) from (lN_le2 (b := 2000) (by omega) (by omega)).mpr q)]
    · rw [if_neg q, if_neg (show ¬ lN (hS H + 1 + sz) ≤ (2000 : Int64) from fun t => q ((lN_le2 (b := 2000) (by omega) (by omega)).mp t))]
  have eM : fm_Model_made fu (nI m) (lN sz) v = if hS H + 1 + sz ≤ 2000 then jb_Model_made_28 fu (nI m) (lN sz) v else jb_Model_made_24 fu (nI m) (lN sz) v := by
    unfold fm_Model_made
    rw [hz.1.2.1, nI_toL (by omega), show (1 : Int64) = lN 1 from rfl, lN_add2 (by omega) (by omega), lN_add2 (by omega) (by omega)]
    by_cases q0 : 2000 < sz
    · rw [if_pos (show (2000 : Int64) < lN sz from (pk_lLT (a := 2000) (b := sz) (by omega) (by omega)).mpr q0), if_neg (by omega)]
    · rw [if_neg (show ¬ (2000 : Int64) < lN sz from fun t => q0 ((pk_lLT (a := 2000) (b := sz) (by omega) (by omega)).mp t))]
      by_cases q : hS H + 1 + sz ≤ 2000
      · rw [if_pos q, if_pos (show lN (hS H + 1 + sz) ≤ (2000 : Int64) from (lN_le2 (b := 2000) (by omega) (by omega)).mpr q)]
      · rw [if_neg q, if_neg (show ¬ lN (hS H + 1 + sz) ≤ (2000 : Int64) from fun t => q ((lN_le2 (b := 2000) (by omega) (by omega)).mp t))]
  rw [eH, eM]
  by_cases q : hS H + 1 + sz ≤ 2000
  · rw [if_pos q, if_pos q]
    obtain ⟨u', v', r1, r2, r3, r4, r5⟩ := key H u v yf_refl yf_refl hRD.1 hRS hRD.2.1 h29 q
    exact ⟨u', v', H, r1, r2, r3, r4, Or.inr r5⟩
  · rw [if_neg q, if_neg q]
    obtain ⟨u1, v1, H1, c1, c2, c3, c4, c5, c6, c7⟩ := rc_both hfu hTM hRS hRD.1 hRD.2.1 hG h14 h18
    have hz1 := (RHp_iff.mp c5).1
    have hb1 := hz1.1.2.2.1
    have hu1 : yf_fr [30, 31, 32] [] [39, 40, 41, 42, 43, 44, 45] [12] u u1 := yf_mono c3 (by decide)
    have hv1 : yf_fr [29, 32, 33, 34] [] [37, 38, 39, 40, 41, 42] [5] v v1 := yf_mono c4 (by decide)
    have hv29 : v1.1 29 = 0 := by rw [c4.1 29 (by decide)]; exact h29
    unfold jb_Model_made_24
    rw [c1, c2, ys_seq, ys_seq, nI_1, nI_toL (by omega), lN_add2 (by omega) (by omega)]
    by_cases q1 : hS H1 + 1 + sz ≤ 2000
    · rw [if_pos (show lN (hS H1 + 1 + sz) ≤ (2000 : Int64) from (lN_le2 (b := 2000) (by omega) (by omega)).mpr q1)]
      obtain ⟨u', v', r1, r2, r3, r4, r5⟩ := key H1 u1 v1 hu1 hv1 c5 c6 c7 hv29 q1
      exact ⟨u', v', H1, r1, r2, r3, r4, Or.inr r5⟩
    · rw [if_neg (show ¬ lN (hS H1 + 1 + sz) ≤ (2000 : Int64) from fun t => q1 ((lN_le2 (b := 2000) (by omega) (by omega)).mp t))]
      have e28 : jb_Model_made_28 fu (nI m) (lN sz) v1 = some (0, xs_I v1 29 11) := by
        unfold jb_Model_made_28
        simp only [xs_let]
        rw [hz1.1.2.1, nI_toL (by omega), show (1 : Int64) = lN 1 from rfl, lN_add2 (by omega) (by omega), lN_add2 (by omega) (by omega)]
        by_cases q0 : 2000 < sz
        · rw [if_pos (show (2000 : Int64) < lN sz from (pk_lLT (a := 2000) (b := sz) (by omega) (by omega)).mpr q0)]
        · rw [if_neg (show ¬ (2000 : Int64) < lN sz from fun t => q0 ((pk_lLT (a := 2000) (b := sz) (by omega) (by omega)).mp t)), if_neg (show ¬ lN (hS H1 + 1 + sz) ≤ (2000 : Int64) from fun t => q1 ((lN_le2 (b := 2000) (by omega) (by omega)).mp t))]
      rw [e28]
      have hvi : yf_fr [29] [] [] [] v1 (xs_I v1 29 11) := yf_I yf_refl (by decide)
      exact ⟨u1, xs_I v1 29 11, H1, hu1, yf_trans hv1 (yf_mono hvi (by decide)), RS_fv c6 hvi (by decide), c7, Or.inl ⟨rfl, rfl, rfl, RHp_fv c5 hvi (by decide)⟩⟩
end
