section
variable {α β γ δ σ τ : Type} {B : Nat → Int32} {u v w u' v' u0 v0 : xk_St} {T : List (Nat × List Nat × List Nat)} {F : List Nat} {G : List (Nat × Nat × Nat × Int64)} {L W0 : List Nat} {n fu tc mc lim p q len f D k tn tn' j d b g m i sz ix id : Nat} {z : Nat → Nat} {LL : Nat → List Nat} {AA : Nat → sBo} {tt : Nat → Nat} {H H' : rH} {fs r rr : List rFr} {x x' : rFr} {c : Nat × List Nat × List Nat} {e : Nat × Nat × Nat × Nat} {y : Nat × sIn} {Q Qn Q1 : List sFr} {P : List rFr → Nat → Prop} {R : List Nat}
/-- what a run knows of its globals -/
theorem rf_G (h : rFt D B len T F tc mc G z LL AA tt H x r tn y Qn u v w) : G.length ≤ 64 ∧ (∀ (k : Nat) a, G[k]? = some a → w.2.2.1 14 k = nI a.1 ∧ a.1 < 150) ∧ w.1 18 = nI G.length := by
  obtain ⟨-, -, -, -, -, h1, h2, h3⟩ := (rf_st h).2.2.2.1
  exact ⟨h2, fun k a hk => ⟨(h3 k a hk).1, (h3 k a hk).2.2.2.1.1⟩, h1⟩
/-- a new object is told -/
theorem RP_new {W : List Nat} {x : Nat × Nat × Nat × Nat} {u1 v1 u2 v2 : xk_St} (hm : 20 + 2 * x.2.2.1 < 150) (hRD : RD T F tc H G u v) (hu : yf_fr [27, 28, 30, 31, 32] [] [37, 39, 40, 41, 42, 43, 44, 45] [10, 12] u u2) (hv : yf_fr [26, 29, 32, 33, 34] [] [29, 37, 38, 39, 40, 41, 42] [3, 5] v v2) (h7 : u2.1 27 = 0) (h9 : v2.1 29 = 0) (hl : W.length < 18000) (hid : x.1 ≤ 2000) (hH : RHp T (H' ++ [x]) u2 v2) (hG : RG T (H' ++ [x]) G u2 v2) (hRS : RS T (H' ++ [x]) W u2 v2) : RP T F tc G (W ++ [20 + 2 * x.2.2.1]) u v (fm_Values_pushReference__h61 (nI x.1).toInt64 u2) (fm_Model_lay (lN (2 * x.2.1 + 2)) 1 v2) := by
  rw [hp_pushR hRS.1 hl, mp_lay hRS.2.1 hl (Or.inr rfl)]
  have hr : rv T (H' ++ [x]) (20 + 2 * x.2.2.1) (nI x.1).toInt64 1 (lN (2 * x.2.1 + 2)) := Or.inr (Or.inr ⟨by omega, hm, Or.inr (Or.inr ⟨rfl, H'.length, x, nw_at.1, nI_toL (by omega), rfl, Or.inr ⟨by omega, by rw [show (20 + 2 * x.2.2.1 - 20) / 2 = x.2.2.1 by omega]⟩⟩)⟩)
  have hp := RS_push hRS hl hr
  rw [if_pos (by omega)] at hp
  have hu' := yf_trans hu (yf_mono (uP_f (u := u2) (n := W.length) (x := (nI x.1).toInt64) (f := 1)) (by decide))
  have hv' := yf_trans hv (yf_mono (vP_f (v := v2) (n := W.length) (x := lN (2 * x.2.1 + 2)) (f := 1)) (by decide))
  refine ⟨_, _, rfl, rfl, yf_mono hu' (by decide), yf_mono hv' (by decide), Or.inl ⟨h7, h9, _, hp, RD_mk hRD hu' hv' ?_ hG⟩⟩
  exact RHp_fv (RHp_fu hH uP_f (by decide)) vP_f (by decide)
/-- there is no room -/
theorem RP_11 {W : List Nat} {u1 v1 : xk_St} (hRD : RD T F tc H G u v) (hu : yf_fr [30, 31, 32] [] [39, 40, 41, 42, 43, 44, 45] [12] u u1) (hv : yf_fr [29, 32, 33, 34] [] [37, 38, 39, 40, 41, 42] [5] v v1) (h9 : v1.1 29 = 11) (hH : RHp T H' u1 v1) (hG : RG T H' G u1 v1) : RP T F tc G W u v (some ((), xs_I u1 27 11)) (some ((), v1)) := by
  have hu' : yf_fr [27, 28, 30, 31, 32] [] [37, 39, 40, 41, 42, 43, 44, 45] [10, 12] u (xs_I u1 27 11) := yf_I (yf_mono hu (by decide)) (by decide)
  refine ⟨_, _, rfl, rfl, yf_mono hu' (by decide), yf_mono hv (by decide), Or.inr ⟨11, H', by decide, by decide, rfl, h9, RD_mk hRD hu' (yf_mono hv (by decide)) ?_ hG⟩⟩
  exact RHp_fu hH (yf_I (I := [27]) (J := []) (A := []) (B := []) yf_refl (by decide)) (by decide)
theorem RG_fr {I J A C I' J' A' C' : List Nat} (h : RG T H G u v) (hu : yf_fr I J A C u u') (hd : (yf_no [29] I && yf_no [38] A && yf_no [11] C) = true) (hv : yf_fr I' J' A' C' v v') (hd' : yf_no [2] C' = true) : RG T H G u' v' := by
  have hd1 := Bool.and_eq_true_iff.mp hd
  have hd2 := Bool.and_eq_true_iff.mp hd1.1
  refine ⟨by rw [hu.1 29 (yf_nok hd2.1 (by simp))]; exact h.1, fun k a hk => ?_⟩
  rw [hu.2.2.2 11 (yf_nok hd1.2 (by simp)), hu.2.2.1 38 (yf_nok hd2.2 (by simp)), hv.2.2.2 2 (yf_nok hd' (by simp))]
  exact h.2 k a hk
/-- 0xfb 0 -/
theorem ri_snew (hfu : 18000 < fu) (h : rFt D B len T F tc mc G z LL AA tt H x r tn y Qn u v w) (hi : y.2.1 = 256) (hP : rPs P x r tn) : RZ D B len T F tc mc G z LL AA tt P R (fm_Machine_step fu (u.2.2.1 7 (kF z AA x)) (nI (kF z AA x)) (uF z AA x u)) (mr_st fu w) := by
  obtain ⟨g0, hk, h7, h9, er, hs⟩ := rf_obj (fu := fu) h (by omega)
  obtain ⟨z1, z2, z3, z4, z5⟩ := rf_0 h
  have hx : xt_S y.2.1 = 117 := by
    rcases rf_code h (by omega) (by omega) with ⟨a, q⟩ | ⟨a, q⟩ | q
    · exact a
    · omega
    · omega
  rw [if_pos (by omega)] at hs
  obtain ⟨c, hc, hs⟩ := Option.bind_eq_some_iff.mp hs
  obtain ⟨h95, hs⟩ := xp_if hs
  obtain ⟨m, m1, m2, m3, m4⟩ := rf_117 h hx hc
  rw [m2] at hc hs
  have ho : y.2.1 - 256 = 0 := by omega
  rw [ho] at hs h9
  unfold sq_strc at hs
  rw [if_pos rfl] at hs
  have hst := rf_st h
  obtain ⟨gG, g14, g18⟩ := rf_G h
  have hT64 : T.length ≤ 64 := h.1.1.2.2.1.2.1.1
  have hml := yl_lt hc
  have hsz16 : c.2.1.length ≤ 16 := (hst.1.2.1.2 m c hc).1
  have a3 : (uF z AA x u).2.2.1 3 m = nI c.2.1.length := by
    have := (hst.1.1.2.2 m c hc).1.2.1
    rw [yn_cs (by omega)] at this; exact this
  have a5 : (uF z AA x u).2.2.1 5 m = nI (yl_f T m) := hst.1.2.2 m hml
  have v5 : w.2.2.1 5 m = nI c.2.1.length := (hst.2.2.1.2.2.1 m c hml hc).1.2.1
  rw [h7, hs_obj (by omega) g0 hk, if_neg (by omega), if_neg (by omega), ho, m3, er]
  refine ri_sgP h hP hs (fun w hw => ?_) fun X hX hRS hRD => ?_
  · obtain ⟨d, hd1, hd2⟩ := List.mem_map.mp (List.mem_reverse.mp hw)
    obtain ⟨i, hi⟩ := List.getElem?_of_mem hd1
    have := (yCe_mv hst.1 hc hi).2.2.1
    rw [← hd2]
    unfold upk
    by_cases q : d = 3 ∨ d = 4
    · rw [if_pos q]; decide
    · rw [if_neg q]; exact this
  rw [List.reverse_reverse] at hRS
  generalize hW : (fW LL r ++ LL x.1) ++ X = W at *
  have hl : (W ++ c.2.1.map upk).length = W.length + c.2.1.length := by rw [List.length_append, List.length_map]
  have hW18 : W.length + c.2.1.length ≤ 18000 := by have := hRS.2.2.1; omega
  have hWl : W.length < 18000 := by rw [List.length_append, List.length_singleton] at hX; omega
  have lsz : (nI c.2.1.length).toInt64 = lN c.2.1.length := nI_toL (by omega)
  have e1 : ∀ a, fm_Machine_doStructure fu (nI 0) (nI m) a (uF z AA x u) = xs_seq (fm_Heap_make fu (nI (yl_f T m)) (lN c.2.1.length) (uF z AA x u)) fun a1 u2 => if a1 = (0 : Int32) then some ((), xs_I u2 27 11) else jb_Machine_makeStructure_60 fu fu (nI m) (nI c.2.1.length) a1 0 (xs_I u2 28 (u2.1 28 - nI c.2.1.length)) := by
    intro a
    unfold fm_Machine_doStructure jb_Machine_doStructure_25 fm_Machine_makeStructure
    rw [if_neg (by decide), if_neg (nI_in (N := 65) (by omega) (by decide)), if_pos (by decide), show (nI m).toNatClampNeg = m from nI_clamp (by omega), a3, a5, lsz, xs_id, if_neg (nI_inc (by omega) (by decide))]
    congr 1
  have e2 : fm_Model_doObjects fu w = xs_seq (fm_Model_made fu (nI m) (lN c.2.1.length) w) fun a3 u4 => if (u4.1 29) = (0 : Int32) then (if (u4.1 9) = (0 : Int32) then (if (((a3 / (2 : Int64)).toInt32) - (1 : Int32)) < 0 ∨ 2001 ≤ (((a3 / (2 : Int64)).toInt32) - (1 : Int32)).toNatClampNeg then none else jb_Model_newStructure_64 fu fu (nI m) (nI c.2.1.length) a3 (u4.2.2.1 37 (((a3 / (2 : Int64)).toInt32) - (1 : Int32)).toNatClampNeg) (0 : Int32) (xs_I u4 26 ((u4.1 26) - nI c.2.1.length))) else (jb_Model_newStructure_113 fu a3 u4)) else (some ((()), u4)) := by
    unfold fm_Model_doObjects
    rw [h9, if_neg (by decide), xs_id]
    unfold fm_Model_newStructure
    simp only [xs_let]
    rw [m4, if_neg (nI_in (N := 64) (by omega) (by decide)), show (nI m).toNatClampNeg = m from nI_clamp (by omega), v5, lsz]
    congr 1
  rw [e1, e2]
  obtain ⟨u1, v1, H1, f1, f2, s1, s2, s3⟩ := hm_make (sz := c.2.1.length) hfu hst.2.2.1 hRS hRD gG g14 g18 z2 hc (Or.inr ⟨h95, rfl⟩) (by omega)
  rcases s3 with ⟨t1, t2, t3, t4⟩ | ⟨id, ix, t1, t2, t3, t4, t5, t6, t7⟩
  · rw [t1, t2, ys_seq, ys_seq, if_pos rfl, if_neg (by rw [t3]; decide)]
    exact RP_11 hRD f1 f2 t3 t4 s2
  · obtain ⟨nc1, nc2, nc3, nc4, nc5, nc6⟩ := nw_cell t5
    have v9 : v1.1 9 = nI 0 := by rw [f2.1 9 (by decide)]; exact h9
    have u28 : u1.1 28 = nI (W.length + c.2.1.length) := by rw [s1.1, hl]
    have v26 : v1.1 26 = nI (W.length + c.2.1.length) := by rw [s1.2.1, hl]
    have hix : (lN (2 * ix + 2) / 2).toInt32 - 1 = nI ix := by
      rw [show 2 * ix + 2 = 2 * (ix + 1) by omega, lN_div2 (by omega), sb_nLi (by omega)]
      exact nI_pred _
    rw [t1, t2, ys_seq, ys_seq, if_neg (fun q => by have := (nI_eq (b := 0) (by omega) (by decide)).mp q; omega), if_pos t3, if_pos (by rw [v9]; decide), hix, ix2001 (by omega), show (nI ix).toNatClampNeg = ix from nI_clamp (by omega), nc2, u28, v26, nI_subb]
    have hTM1 : yTM T (xs_I v1 26 (nI W.length)) := yTM_fr hst.2.2.1 (yf_I (I := [26, 29, 32, 33, 34]) (J := []) (A := [37, 38, 39, 40, 41, 42]) (B := [5]) (yf_mono f2 (by decide)) (by decide)) (by decide)
    have hCe1 : yCe T (xs_I u1 28 (nI W.length)) := (rSt_fu hst f1 (by decide)).1
    have hz1 : RHz T (H1 ++ [(id, ix, m, c.2.1.length)]) (xs_I u1 28 (nI W.length)) (xs_I v1 26 (nI W.length)) := t5
    have ht1 : RHt T (H1 ++ [(id, ix, m, c.2.1.length)]) (fun k i' => k < H1.length ∨ i' < 0) (xs_I u1 28 (nI W.length)) (xs_I v1 26 (nI W.length)) := fun k e c i' d he hcc hPP hi' hd' => t6 k e c i' d he hcc (by rcases hPP with q | q; exact q; omega) hi' hd'
    obtain ⟨u2, v2, l1, l2, l3, l4, l5⟩ := ns_loop (fu := fu) (H := H1) (id := id) (ix := ix) (n0 := W.length) hc h95 rfl m1 hW18 c.2.1.length 0 fu fu (xs_I u1 28 (nI W.length)) (xs_I v1 26 (nI W.length)) (by omega) (by omega) (by omega) hCe1 hTM1 rfl rfl hz1 ht1 (fun i' d hd => by
      have hd' : (W ++ c.2.1.map upk)[W.length + i']? = some (upk d) := by
        rw [List.getElem?_append_right (by omega), show W.length + i' - W.length = i' by omega, List.getElem?_map, hd]; rfl
      exact rv_app (s1.2.2.2 _ _ hd').1)
    have l1' : jb_Machine_makeStructure_60 fu fu (nI m) (nI c.2.1.length) (nI id) 0 (xs_I u1 28 (nI W.length)) = _ := l1
    have l2' : jb_Model_newStructure_64 fu fu (nI m) (nI c.2.1.length) (lN (2 * ix + 2)) (nI (hS H1 + 1)) 0 (xs_I v1 26 (nI W.length)) = _ := l2
    rw [l1', l2']
    unfold jb_Machine_makeStructure_107 jb_Model_newStructure_113
    rw [xs_id, xs_id]
    have hu2 : yf_fr [27, 28, 30, 31, 32] [] [37, 39, 40, 41, 42, 43, 44, 45] [10, 12] (uF z AA x u) u2 := yf_trans (yf_I (yf_mono f1 (by decide)) (by decide)) (yf_mono l3 (by decide))
    have hv2 : yf_fr [26, 29, 32, 33, 34] [] [29, 37, 38, 39, 40, 41, 42] [3, 5] w v2 := yf_trans (yf_I (yf_mono f2 (by decide)) (by decide)) (yf_mono l4 (by decide))
    have hRSw : RS T (H1 ++ [(id, ix, m, c.2.1.length)]) W (xs_I u1 28 (nI W.length)) (xs_I v1 26 (nI W.length)) := ⟨rfl, rfl, by omega, fun i d hd => by
      have hd' : (W ++ c.2.1.map upk)[i]? = some d := by rw [List.getElem?_append_left (yl_lt hd)]; exact hd
      exact ⟨rv_app (s1.2.2.2 i d hd').1, (s1.2.2.2 i d hd').2⟩⟩
    exact RP_new (x := (id, ix, m, c.2.1.length)) (u1 := u1) (v1 := v1) (show 20 + 2 * m < 150 by omega) hRD hu2 hv2 (by rw [l3.1 27 (by simp)]; show u1.1 27 = 0; rw [f1.1 27 (by decide)]; exact z1) (by rw [l4.1 29 (by simp)]; exact t3) hWl nc4 l5 (RG_fr (RG_app s2) (yf_I (I := [28]) (J := []) (A := [39]) (B := [12]) yf_refl (by decide) |> fun a => yf_trans a (yf_mono l3 (by decide))) (by decide) (yf_I (I := [26]) (J := []) (A := []) (B := [5]) yf_refl (by decide) |> fun a => yf_trans a (yf_mono l4 (by decide))) (by decide)) (RS_fv (RS_fu hRSw l3 (by decide)) l4 (by decide))
end
