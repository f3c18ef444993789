section
variable {α β γ δ σ τ : Type} {B : Nat → Int32} {u v w u' v' u0 v0 : xk_St} {T : List (Nat × List Nat × List Nat)} {F : List Nat} {G : List (Nat × Nat × Nat × Int64)} {L W0 : List Nat} {n fu tc mc lim p q len f D k tn tn' j d b g m i : Nat} {z : Nat → Nat} {LL : Nat → List Nat} {AA : Nat → sBo} {tt : Nat → Nat} {H H' : rH} {fs r rr : List rFr} {x x' : rFr} {c : Nat × List Nat × List Nat} {e : Nat × Nat × Nat × Nat} {y : Nat × sIn} {Q Qn Q1 : List sFr} {P : List rFr → Nat → Prop} {R : List Nat}
/-- one part is written on both sides -/
theorem ae_step {s : Nat} {xm : Int64} {P P' : Nat → Nat → Prop} (hz : RHz T H u v) (ht : RHt T H P u v) (he : H[k]? = some e) (hi : i < e.2.2.2) (hm : yl_f T e.2.2.1 = yl_f T m) (hc : T[m]? = some c) (hd : pT c i = some d) (hd150 : d < 150) (hTM : yTM T v) (hs : s < 18000) (hr : rv T H (upk d) (u.2.2.2 10 s) (u.2.2.1 37 s) xm) (hP : ∀ k' i', P' k' i' → P k' i' ∨ (k' = k ∧ i' = i)) : ∃ a ff bb, fm_Machine_setCell (nI (hS (H.take k) + 1 + i)) (nI (yv_h d)) (nI s) u = some ((), uC u (hS (H.take k) + 1 + i) a ff) ∧ fm_Model_packed (nI d) xm v = some (bb, v) ∧ RHz T H (uC u (hS (H.take k) + 1 + i) a ff) (xs_B v 5 (hS (H.take k) + 1 + i) bb) ∧ RHt T H P' (uC u (hS (H.take k) + 1 + i) a ff) (xs_B v 5 (hS (H.take k) + 1 + i) bb) := by
  have htop := hS_top he
  have h2000 := hz.1.2.2.1
  exact ⟨_, _, _, hp_setCell hd150 (by omega) hs (rv_f hr), mp_packed hd150, RHz_set hz he hi, RHt_set ht he hi (rh_put hTM hz he hm hc hd (rv_mk hr)) hP⟩
theorem ae_fill {ix cnt : Nat} {xm : Int64} (he : H[k]? = some e) (hsz : ix + cnt ≤ e.2.2.2) (hm : yl_f T e.2.2.1 = yl_f T m) (hc : T[m]? = some c) (h94 : c.1 = 94) (hd : c.2.1[0]? = some d) (hd150 : d < 150) (hs : n + 2 < 18000) : ∀ (j i fn fm : Nat) (u v : xk_St), i + j = cnt → j < fn → j < fm → rv T H (upk d) (u.2.2.2 10 (n + 2)) (u.2.2.1 37 (n + 2)) xm → RHp T H u v → yCe T u → yTM T v → ¬ v.1 9 ≤ 13 → ∃ u' v', jb_Machine_setElements_43 fu fn (nI m) (nI n) (lN cnt) (nI (hS (H.take k) + 1 + ix)) (nI i) u = some ((), xs_I u' 28 (nI n)) ∧ jb_Model_doArray_215 fu fm (lN cnt) xm (nI d) (nI (hS (H.take k) + 1 + ix)) (nI i) v = some ((), v') ∧ yf_fr [] [] [39] [12] u u' ∧ yf_fr [] [] [] [5] v v' ∧ RHp T H u' v' := by
  intro j
  induction j with
  | zero =>
    intro i fn fm u v hij hfn hfm hr hH hCe hTM h9
    obtain ⟨fn, rfl⟩ : ∃ f, fn = f + 1 := ⟨fn - 1, by omega⟩
    obtain ⟨fm, rfl⟩ : ∃ f, fm = f + 1 := ⟨fm - 1, by omega⟩
    have htop := hS_top he
    have h2000 := hH.1.2.2.1
    refine ⟨u, v, ?_, ?_, yf_refl, yf_refl, hH⟩
    · unfold jb_Machine_setElements_43
      simp only [xs_let]
      rw [nI_toL (by omega), if_pos ((lN_le2 (by omega) (by omega)).mpr (by omega))]
    · unfold jb_Model_doArray_215
      simp only [xs_let]
      rw [nI_toL (by omega), if_pos ((lN_le2 (by omega) (by omega)).mpr (by omega))]
  | succ j ih =>
    intro i fn fm u v hij hfn hfm hr hH hCe hTM h9
    obtain ⟨fn, rfl⟩ : ∃ f, fn = f + 1 := ⟨fn - 1, by omega⟩
    obtain ⟨fm, rfl⟩ : ∃ f, fm = f + 1 := ⟨fm - 1, by omega⟩
    have htop := hS_top he
    have h2000 := hH.1.2.2.1
    have hdp : pT c (ix + i) = some d := by unfold pT; rw [if_pos h94]; exact hd
    obtain ⟨hz, ht⟩ := RHp_iff.mp hH
    obtain ⟨a, ff, bb, s1, s2, s3, s4⟩ := ae_step (P' := fun _ _ => True) hz ht he (show ix + i < e.2.2.2 by omega) hm hc hdp hd150 hTM hs hr (fun _ _ _ => Or.inl trivial)
    have hmem : fm_Types_member (nI m) 0 u = some (nI (yv_h d), u) := yCe_m (i := 0) hCe hc hd
    have hH' := RHp_iff.mpr ⟨s3, s4⟩
    have hU : yf_fr [] [] [39] [12] u (uC u (hS (H.take k) + 1 + (ix + i)) a ff) := uC_f
    have hV : yf_fr [] [] [] [5] v (xs_B v 5 (hS (H.take k) + 1 + (ix + i)) bb) := yf_B yf_refl (by decide)
    obtain ⟨u', v', e1, e2, f1, f2, hH2⟩ := ih (i + 1) fn fm (uC u (hS (H.take k) + 1 + (ix + i)) a ff) (xs_B v 5 (hS (H.take k) + 1 + (ix + i)) bb) (by omega) (by omega) (by omega) hr hH' (show yCe T u from hCe) (yTM_fr hTM hV (by decide)) h9
    refine ⟨u', v', ?_, ?_, yf_trans hU f1, yf_trans hV f2, hH2⟩
    · unfold jb_Machine_setElements_43
      simp only [xs_let]
      rw [nI_toL (by omega), if_neg (fun t => by have := (lN_le2 (by omega) (by omega)).mp t; omega), hmem, ys_seq, nI_add, show (2 : Int32) = nI 2 from rfl, nI_add, show hS (H.take k) + 1 + ix + i = hS (H.take k) + 1 + (ix + i) by omega, s1, ys_seq, nI_1]
      exact e1
    · unfold jb_Model_doArray_215
      simp only [xs_let]
      rw [nI_toL (by omega), if_neg (fun t => by have := (lN_le2 (by omega) (by omega)).mp t; omega), if_neg h9, s2, ys_seq, nI_add, show hS (H.take k) + 1 + ix + i = hS (H.take k) + 1 + (ix + i) by omega, ix2001 (by omega), show (nI (hS (H.take k) + 1 + (ix + i))).toNatClampNeg = hS (H.take k) + 1 + (ix + i) from nI_clamp (by omega), nI_1]
      exact e2
/-- writing elements: what both sides do once the operands are off -/
theorem RP_fill {W : List Nat} {cnt : Nat} (hfu : 18000 < fu) (hCe : yCe T u) (hTM : yTM T v) (hRD : RD T F tc H G u v) (h7 : u.1 27 = 0) (h29 : v.1 29 = 0) (hW : W.length + 2 < 18000) (hRS : RS T H W (xs_I u 28 (nI W.length)) (xs_I v 26 (nI W.length))) (ho : rv T H (21 + 2 * m) (u.2.2.2 10 W.length) (u.2.2.1 37 W.length) (v.2.2.2 3 W.length)) (hx : rv T H 1 (u.2.2.2 10 (W.length + 1)) (u.2.2.1 37 (W.length + 1)) (v.2.2.2 3 (W.length + 1))) (hy : rv T H (upk d) (u.2.2.2 10 (W.length + 2)) (u.2.2.1 37 (W.length + 2)) (v.2.2.2 3 (W.length + 2))) (hc : T[m]? = some c) (h94 : c.1 = 94) (hd : c.2.1[0]? = some d) (hcn : cnt < 2 ^ 32) (h9 : (14 : Int32) ≤ v.1 9) (h15 : ¬ v.1 9 = 15) (hm : (v.2.1 0).toInt32 = nI m) : RP T F tc G W u v (fm_Machine_setElements fu (nI m) (nI W.length) (lN cnt) u) (jb_Model_doArray_70 fu (lN cnt) (v.2.2.2 3 (W.length + 2)) (v.2.2.2 3 (W.length + 1) &&& 4294967295) (xs_I v 26 (nI (W.length + 1)))) := by
  have hH := hRD.1
  obtain ⟨hz, -⟩ := RHp_iff.mp hH
  have hd150 := (yCe_mv hCe hc hd).2.2.1
  have hT64 := hTM.2.1.1
  have hml := yl_lt hc
  obtain ⟨p7, -, -⟩ := yTM_p hTM hc hd
  rw [Nat.add_zero] at p7
  have hK := rK_0 hH (rv_K ho (by omega))
  obtain ⟨y1, y2, y3⟩ := rv_1 hx
  obtain ⟨ix, x1, x2, x3⟩ := ae_ix (v.2.2.2 3 (W.length + 1))
  have ux2 : u.2.2.2 10 (W.length + 1) &&& 4294967295 = lN ix := by rw [y1]; exact x2
  obtain ⟨hh0, hh1⟩ := hp_has (cnt := cnt) hz h7 (by omega) ux2 x1 hcn
  have hz1 : RHz T H u (xs_I v 26 (nI (W.length + 1))) := (RHp_iff.mp (RHp_fv hH (yf_I (I := [26]) (J := []) (A := []) (B := []) yf_refl (by decide)) (by decide))).1
  obtain ⟨mm0, mm1⟩ := mp_70 (fu := fu) (cnt := cnt) (ix := ix) (b3 := v.2.2.2 3 (W.length + 2)) (n := W.length) (m := m) hz1 rfl (by omega) x1 hcn h15 hm (by omega)
  rw [x2]
  unfold fm_Machine_setElements
  simp only [xs_let]
  by_cases c0 : u.2.2.2 10 W.length = 0
  · rw [hh0 c0, ys_seq, if_pos rfl, mm0 (hK.mp c0)]
    refine ⟨_, _, rfl, rfl, yf_I (yf_I yf_refl (by decide)) (by decide), yf_I (yf_I (yf_I yf_refl (by decide)) (by decide)) (by decide), Or.inr ⟨8, H, by decide, by decide, rfl, rfl, ?_⟩⟩
    exact RD_fv (RD_fu hRD (yf_I (I := [27, 28]) (J := []) (A := []) (B := []) (yf_I yf_refl (by decide)) (by decide)) (by decide)) (yf_I (I := [26, 29]) (J := []) (A := []) (B := []) (yf_I (yf_I yf_refl (by decide)) (by decide)) (by decide)) (by decide)
  · obtain ⟨k, e, he, r1, r2, r3⟩ := rv_obj ho c0
    obtain ⟨i1, i2, i3, i4⟩ := rh_obj hz he
    obtain ⟨⟨b1, b2, b3⟩, -⟩ := hz.2.1 k e he
    have htop := hS_top he
    have h2000 := hz.1.2.2.1
    rw [hh1 k e he r1, mm1 k e he r2]
    by_cases cx : ix + cnt ≤ e.2.2.2
    · rw [if_pos cx, if_pos cx, ys_seq, if_neg (show ¬ (1 : Int32) = 0 by decide)]
      have ux3 : (u.2.2.2 10 (W.length + 1)).toInt32 = nI ix := by rw [y1]; exact x3
      have w9 : (xs_I v 26 (nI (W.length + 1))).1 9 = v.1 9 := rfl
      have w7 : (xs_I v 26 (nI (W.length + 1))).2.2.1 7 (32 * m) = nI d := p7
      rw [nI_1, ix18 (by omega), ix18 (by omega), show (nI W.length).toNatClampNeg = W.length from nI_clamp (by omega), show (nI (W.length + 1)).toNatClampNeg = W.length + 1 from nI_clamp (by omega), r1, i1, ux3, hp_cell hz he, ys_seq, w9, if_pos h9, nI_add, w7]
      have hH1 : RHp T H u (xs_I (xs_I v 26 (nI (W.length + 1))) 26 (nI W.length)) := RHp_fv hH (yf_I (I := [26]) (J := []) (A := []) (B := []) (yf_I yf_refl (by decide)) (by decide)) (by decide)
      have h13 : ¬ v.1 9 ≤ (13 : Int32) := fun q => by
        have a := Int32.le_iff_toInt_le.mp q
        have b := Int32.le_iff_toInt_le.mp h9
        have e1 : (13 : Int32).toInt = 13 := by decide
        have e2 : (14 : Int32).toInt = 14 := by decide
        omega
      obtain ⟨u', v', f1, f2, f3, f4, f5⟩ := ae_fill (fu := fu) (n := W.length) (ix := ix) (cnt := cnt) (xm := v.2.2.2 3 (W.length + 2)) he cx r3 hc h94 hd hd150 hW cnt 0 fu fu u (xs_I (xs_I v 26 (nI (W.length + 1))) 26 (nI W.length)) (by omega) (by omega) (by omega) hy hH1 hCe (yTM_fr hTM (yf_I (I := [26]) (J := []) (A := []) (B := []) (yf_I yf_refl (by decide)) (by decide)) (by decide)) h13
      unfold jb_Model_doArray_212
      have f1' : jb_Machine_setElements_43 fu fu (nI m) (nI W.length) (lN cnt) (nI (hS (H.take k) + 1 + ix)) 0 u = some ((), xs_I u' 28 (nI W.length)) := f1
      have f2' : jb_Model_doArray_215 fu fu (lN cnt) (v.2.2.2 3 (W.length + 2)) (nI d) (nI (hS (H.take k) + 1 + ix)) 0 (xs_I (xs_I v 26 (nI (W.length + 1))) 26 (nI W.length)) = some ((), v') := f2
      rw [f1', f2']
      have hv : yf_fr [26] [] [] [5] v v' := yf_trans (yf_I (yf_I yf_refl (by decide)) (by decide)) (yf_mono f4 (by decide))
      refine ⟨_, _, rfl, rfl, yf_I (yf_mono f3 (by decide)) (by decide), yf_mono hv (by decide), Or.inl ⟨?_, ?_, H, ?_, ?_⟩⟩
      · show u'.1 27 = 0
        rw [f3.1 27 (by decide)]; exact h7
      · rw [hv.1 29 (by decide)]; exact h29
      · have a1 : RS T H W (xs_I u' 28 (nI W.length)) (xs_I v 26 (nI W.length)) := by
          refine ⟨rfl, rfl, hRS.2.2.1, fun i d hd => ?_⟩
          have := hRS.2.2.2 i d hd
          show rv T H d (u'.2.2.2 10 i) (u'.2.2.1 37 i) (v.2.2.2 3 i) ∧ _
          rw [f3.2.2.2 10 (by decide), f3.2.2.1 37 (by decide)]
          exact this
        have f26 : v'.1 26 = nI W.length := f4.1 26 (by decide)
        refine ⟨rfl, f26, hRS.2.2.1, fun i d hd => ?_⟩
        have := a1.2.2.2 i d hd
        rw [hv.2.2.2 3 (by decide), hv.2.2.1 29 (by decide)]
        exact this
      · have hu : yf_fr [28] [] [39] [12] u (xs_I u' 28 (nI W.length)) := yf_I (yf_mono f3 (by decide)) (by decide)
        refine ⟨RHp_fu f5 (yf_I (I := [28]) (J := []) (A := []) (B := []) yf_refl (by decide)) (by decide), ?_, ?_, ?_⟩
        · obtain ⟨a1, a2⟩ := hRD.2.1
          refine ⟨by rw [hu.1 29 (by decide)]; exact a1, fun k a hk => ?_⟩
          rw [hu.2.2.2 11 (by decide), hu.2.2.1 38 (by decide), hv.2.2.2 2 (by decide)]
          exact a2 k a hk
        · obtain ⟨a1, p, mm, a2, a3, a4, a5, a6, a7, a8⟩ := hRD.2.2.1
          refine ⟨fun i hi => ?_, p, mm, ?_, ?_, ?_, ?_, a6, a7, fun i h1 h2 => by rw [hu.2.2.1 46 (by decide)]; exact a8 i h1 h2⟩
          · rw [hu.2.2.1 46 (by decide), hv.2.2.1 27 (by decide)]; exact a1 i hi
          · rw [hu.1 33 (by decide)]; exact a2
          · rw [hv.1 16 (by decide)]; exact a3
          · rw [hu.1 34 (by decide)]; exact a4
          · rw [hv.1 17 (by decide)]; exact a5
        · obtain ⟨a1, nn, a2, a3, a4, a5⟩ := hRD.2.2.2
          refine ⟨fun i hi => ?_, nn, a2, ?_, a4, ?_⟩
          · rw [hu.2.2.1 47 (by decide), hv.2.2.1 28 (by decide)]; exact a1 i hi
          · rw [hv.1 24 (by decide)]; exact a3
          · rw [hu.2.2.1 16 (by decide)]; exact a5
    · rw [if_neg cx, if_neg cx, ys_seq, if_pos rfl]
      refine ⟨_, _, rfl, rfl, yf_I (yf_I yf_refl (by decide)) (by decide), yf_I (yf_I (yf_I yf_refl (by decide)) (by decide)) (by decide), Or.inr ⟨10, H, by decide, by decide, rfl, rfl, ?_⟩⟩
      exact RD_fv (RD_fu hRD (yf_I (I := [27, 28]) (J := []) (A := []) (B := []) (yf_I yf_refl (by decide)) (by decide)) (by decide)) (yf_I (I := [26, 29]) (J := []) (A := []) (B := []) (yf_I (yf_I yf_refl (by decide)) (by decide)) (by decide)) (by decide)
end
