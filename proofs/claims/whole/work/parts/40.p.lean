section
variable {α β γ δ σ τ : Type} {B : Nat → Int32} {u v w u' v' u0 v0 : xk_St} {T : List (Nat × List Nat × List Nat)} {F : List Nat} {G : List (Nat × Nat × Nat × Int64)} {L W0 : List Nat} {n fu tc mc lim p q len f D k tn tn' j d b g m i sz ix id : Nat} {z : Nat → Nat} {LL : Nat → List Nat} {AA : Nat → sBo} {tt : Nat → Nat} {H H' : rH} {fs r rr : List rFr} {x x' : rFr} {c : Nat × List Nat × List Nat} {e : Nat × Nat × Nat × Nat} {y : Nat × sIn} {Q Qn Q1 : List sFr} {P : List rFr → Nat → Prop} {R : List Nat}
/-- 0xfb 8 -/
theorem ri_afix (hfu : 18000 < fu) (h : rFt D B len T F tc mc G z LL AA tt H x r tn y Qn u v w) (hi : y.2.1 = 264) (hP : rPs P x r tn) : RZ D B len T F tc mc G z LL AA tt P R (fm_Machine_step fu (u.2.2.1 7 (kF z AA x)) (nI (kF z AA x)) (uF z AA x u)) (mr_st fu w) := by
  obtain ⟨g0, hk, h7, h9, er, -⟩ := rf_obj (fu := fu) h (by omega)
  obtain ⟨z1, z2, z3, z4, z5⟩ := rf_0 h
  obtain ⟨m, c, d, m1, hc, h94, hd, hd150, hu150, hml, hs, m3, m4, a5, p7, hk4⟩ := rf_arr h (by omega)
  obtain ⟨sz, k1, k2, k3, k4⟩ := hk4 hi
  have hst := rf_st h
  obtain ⟨gG, g14, g18⟩ := rf_G h
  have hT64 : T.length ≤ 64 := h.1.1.2.2.1.2.1.1
  have ho : y.2.1 - 256 = 8 := by omega
  rw [ho] at hs h9
  unfold sq_arrc at hs
  rw [if_neg (by decide), if_neg (by decide), if_pos rfl, k2] at hs
  obtain ⟨h64, hs⟩ := xp_if hs
  rw [h7, hs_obj (by omega) g0 hk, if_neg (by omega), if_pos (by omega), m3, k3, sb_nLi (by omega), er, ho]
  refine ri_sgP h hP hs (fun w hw => by rw [(List.mem_replicate.mp hw).2]; exact hu150) fun X hX hRS hRD => ?_
  rw [List.reverse_replicate] at hRS
  generalize hW : (fW LL r ++ LL x.1) ++ X = W at *
  have hl : (W ++ List.replicate sz (upk d)).length = W.length + sz := by rw [List.length_append, List.length_replicate]
  have hW18 : W.length + sz ≤ 18000 := by have := hRS.2.2.1; omega
  have hWl : W.length < 18000 := by rw [List.length_append, List.length_singleton] at hX; omega
  have e1 : fm_Machine_doArray fu (nI 8) (nI m) (nI sz) (uF z AA x u) = xs_seq (fm_Heap_make fu (nI (yl_f T m)) (lN sz) (uF z AA x u)) fun a1 u2 => if a1 = 0 then some ((), xs_I u2 27 11) else jb_Machine_makeArrayOf_54 fu fu (nI m) (nI sz) a1 0 (xs_I u2 28 (u2.1 28 - nI sz)) := by
    unfold fm_Machine_doArray fm_Machine_makeArrayOf
    rw [if_neg (by decide), if_neg (by decide), if_pos (by decide), xs_id, if_neg (nI_in (N := 65) (by omega) (by decide)), show (nI m).toNatClampNeg = m from nI_clamp (by omega), a5, nI_toL (by omega)]
    rfl
  have e2 : fm_Model_doObjects fu w = jb_Model_newArray_47 fu (nI m) (nI d) (lN sz) w := by
    unfold fm_Model_doObjects
    rw [h9, if_pos (by decide), if_pos (by decide), if_neg (by decide), xs_id]
    unfold fm_Model_newArray
    simp only [xs_let]
    rw [m4, nI_320, if_neg (nI_in (N := 2048) (by omega) (by decide)), show (nI (32 * m)).toNatClampNeg = 32 * m from nI_clamp (by omega), p7, h9, if_pos (by decide), k4]
  rw [e1, e2]
  obtain ⟨u1, v1, H1, f1, f2, s1, s2, s3⟩ := hm_make (sz := sz) hfu hst.2.2.1 hRS hRD gG g14 g18 z2 hc (Or.inl h94) k1
  rcases s3 with ⟨t1, t2, t3, t4⟩ | ⟨id, ix, t1, t2, t3, t4, t5, t6, t7⟩
  · rw [t1, ys_seq, if_pos rfl, mp_47n t2 t3]
    exact RP_11 hRD f1 f2 t3 t4 s2
  · obtain ⟨nc1, nc2, nc3, nc4, nc5, nc6⟩ := nw_cell t5
    have v9 : v1.1 9 = nI 8 := by rw [f2.1 9 (by decide)]; exact h9
    have u28' : u1.1 28 = nI (W.length + sz) := by rw [s1.1, hl]
    have v26' : v1.1 26 = nI (W.length + sz) := by rw [s1.2.1, hl]
    rw [t1, ys_seq, if_neg (fun q => by have := (nI_eq (b := 0) (by omega) (by decide)).mp q; omega), mp_47 t2 t3 nc5 nc2, u28', v26', v9, if_pos (by decide), sb_nLi (by omega), nI_subb]
    have hTMv : yTM T v1 := yTM_fr hst.2.2.1 f2 (by decide)
    have hTM1 : yTM T (xs_I v1 26 (nI W.length)) := hTMv
    have hCe1 : yCe T (xs_I u1 28 (nI W.length)) := (rSt_fu hst f1 (by decide)).1
    have hz1 : RHz T (H1 ++ [(id, ix, m, sz)]) (xs_I u1 28 (nI W.length)) (xs_I v1 26 (nI W.length)) := t5
    have ht1 : RHt T (H1 ++ [(id, ix, m, sz)]) (fun k i' => k < H1.length ∨ i' < 0) (xs_I u1 28 (nI W.length)) (xs_I v1 26 (nI W.length)) := fun k e c i' d he hcc hPP hi' hd' => t6 k e c i' d he hcc (by rcases hPP with q | q; exact q; omega) hi' hd'
    obtain ⟨u2, v2, l1, l2, l3, l4, l5⟩ := nf_loop (fu := fu) (H := H1) (id := id) (ix := ix) (n0 := W.length) hc h94 hd m1 hW18 sz 0 fu fu (xs_I u1 28 (nI W.length)) (xs_I v1 26 (nI W.length)) (by omega) (by omega) (by omega) hCe1 hTM1 rfl rfl (by show v1.1 9 = 8; rw [v9]; rfl) hz1 ht1 (fun i' hi' => by
      have hd' : (W ++ List.replicate sz (upk d))[W.length + i']? = some (upk d) := by
        rw [List.getElem?_append_right (by omega), show W.length + i' - W.length = i' by omega, List.getElem?_replicate, if_pos hi']
      exact rv_app (s1.2.2.2 _ _ hd').1)
    have l1' : jb_Machine_makeArrayOf_54 fu fu (nI m) (nI sz) (nI id) 0 (xs_I u1 28 (nI W.length)) = _ := l1
    have l2' : jb_Model_newArray_107 fu fu (nI d) (lN sz) (lN (2 * ix + 2)) (nI (hS H1 + 1)) 0 (xs_I v1 26 (nI W.length)) = _ := l2
    rw [l1', l2']
    unfold jb_Model_newArray_156 jb_Model_newArray_204
    have v29 : v2.1 9 = nI 8 := by rw [l4.1 9 (by simp)]; exact v9
    rw [v29, if_neg (by decide), xs_id]
    have hu2 : yf_fr [27, 28, 30, 31, 32] [] [37, 39, 40, 41, 42, 43, 44, 45] [10, 12] (uF z AA x u) u2 := yf_trans (yf_I (yf_mono f1 (by decide)) (by decide)) (yf_mono l3 (by decide))
    have hv2 : yf_fr [26, 29, 32, 33, 34] [] [29, 37, 38, 39, 40, 41, 42] [3, 5] w v2 := yf_trans (yf_I (yf_mono f2 (by decide)) (by decide)) (yf_mono l4 (by decide))
    have hRSw : RS T (H1 ++ [(id, ix, m, sz)]) W (xs_I u1 28 (nI W.length)) (xs_I v1 26 (nI W.length)) := ⟨rfl, rfl, by omega, fun i d' hd' => by
      have hd2 : (W ++ List.replicate sz (upk d))[i]? = some d' := by rw [List.getElem?_append_left (yl_lt hd')]; exact hd'
      exact ⟨rv_app (s1.2.2.2 i d' hd2).1, (s1.2.2.2 i d' hd2).2⟩⟩
    exact RP_new (x := (id, ix, m, sz)) (u1 := u1) (v1 := v1) (show 20 + 2 * m < 150 by omega) hRD hu2 hv2 (by rw [l3.1 27 (by simp)]; show u1.1 27 = 0; rw [f1.1 27 (by decide)]; exact z1) (by rw [l4.1 29 (by simp)]; exact t3) hWl nc4 l5 (RG_fr (RG_app s2) (yf_I (I := [28]) (J := []) (A := [39]) (B := [12]) yf_refl (by decide) |> fun a => yf_trans a (yf_mono l3 (by decide))) (by decide) (yf_I (I := [26]) (J := []) (A := []) (B := [5]) yf_refl (by decide) |> fun a => yf_trans a (yf_mono l4 (by decide))) (by decide)) (RS_fv (RS_fu hRSw l3 (by decide)) l4 (by decide))
/-- all instructions on objects -/
theorem ri_obj (hfu : 18000 < fu) (h : rFt D B len T F tc mc G z LL AA tt H x r tn y Qn u v w) (hi : 256 ≤ y.2.1) (hP : rPs P x r tn) : RZ D B len T F tc mc G z LL AA tt P R (fm_Machine_step fu (u.2.2.1 7 (kF z AA x)) (nI (kF z AA x)) (uF z AA x u)) (mr_st fu w) := by
  by_cases c1 : 276 ≤ y.2.1
  · exact ri_kind h c1 hP
  · rcases rf_code h hi (by omega) with ⟨-, q⟩ | ⟨-, q⟩ | q
    · rcases q with q | q | q | q | q | q | q | q | q
      · exact ri_snew hfu h q hP
      · exact ri_sdef hfu h q hP
      · exact ri_anew hfu h (Or.inl q) hP
      · exact ri_anew hfu h (Or.inr q) hP
      · exact ri_aget hfu h (Or.inl q) hP
      · exact ri_aget hfu h (Or.inr (Or.inl q)) hP
      · exact ri_aget hfu h (Or.inr (Or.inr q)) hP
      · exact ri_aset hfu h (Or.inl q) hP
      · exact ri_aset hfu h (Or.inr q) hP
    · rcases q with q | q | q | q | q
      · exact ri_sget h (Or.inl q) hP
      · exact ri_sget h (Or.inr (Or.inl q)) hP
      · exact ri_sget h (Or.inr (Or.inr q)) hP
      · exact ri_sset h q hP
      · exact ri_afix hfu h q hP
    · exact ri_alen h q hP
end
