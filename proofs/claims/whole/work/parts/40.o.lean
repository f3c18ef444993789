section
variable {α β γ δ σ τ : Type} {B : Nat → Int32} {u v w u' v' u0 v0 : xk_St} {T : List (Nat × List Nat × List Nat)} {F : List Nat} {G : List (Nat × Nat × Nat × Int64)} {L W0 : List Nat} {n fu tc mc lim p q len f D k tn tn' j d b g m i sz ix id : Nat} {z : Nat → Nat} {LL : Nat → List Nat} {AA : Nat → sBo} {tt : Nat → Nat} {H H' : rH} {fs r rr : List rFr} {x x' : rFr} {c : Nat × List Nat × List Nat} {e : Nat × Nat × Nat × Nat} {y : Nat × sIn} {Q Qn Q1 : List sFr} {P : List rFr → Nat → Prop} {R : List Nat}
theorem mp_ix (hix : ix ≤ 2000) : (lN (2 * ix + 2) / 2).toInt32 - 1 = nI ix := by
  rw [show 2 * ix + 2 = 2 * (ix + 1) by omega, lN_div2 (by omega), sb_nLi (by omega)]
  exact nI_pred _
/-- the reference at a new array -/
theorem mp_47 {s0 : Int64} {b2 : Int32} {u4 : xk_St} (hm : fm_Model_made fu (nI m) s0 v = some (lN (2 * ix + 2), u4)) (h29 : u4.1 29 = 0) (hix : ix ≤ 2000) (h37 : u4.2.2.1 37 ix = nI p) : jb_Model_newArray_47 fu (nI m) b2 s0 v = jb_Model_newArray_107 fu fu b2 s0 (lN (2 * ix + 2)) (nI p) 0 (xs_I u4 26 (u4.1 26 - (if u4.1 9 = 8 then s0.toInt32 else 1))) := by
  unfold jb_Model_newArray_47 jb_Model_newArray_100
  rw [hm, ys_seq, if_pos h29, if_neg (show ¬ (2 : Int64) = 0 by decide), mp_ix hix, ix2001 (by omega), show (nI ix).toNatClampNeg = ix from nI_clamp (by omega)]
  simp only [xs_let]
  rw [h37]
  by_cases q : u4.1 9 = 8
  · rw [if_pos q, if_pos q]
  · rw [if_neg q, if_neg q]
theorem mp_47n {s0 : Int64} {b2 : Int32} {u4 : xk_St} (hm : fm_Model_made fu (nI m) s0 v = some (0, u4)) (h29 : u4.1 29 = 11) : jb_Model_newArray_47 fu (nI m) b2 s0 v = some ((), u4) := by
  unfold jb_Model_newArray_47
  rw [hm, ys_seq, if_neg (by rw [h29]; decide)]
theorem mp_107 {b2 b7 : Int32} {b3 b5 : Int64} (hfu : 0 < fu) (h9 : ¬ v.1 9 = 8) : jb_Model_newArray_107 fu fu b2 b3 b5 b7 0 v = jb_Model_newArray_156 fu b2 b3 b5 b7 v := by
  obtain ⟨f, hf⟩ : ∃ f, fu = f + 1 := ⟨fu - 1, by omega⟩
  have : jb_Model_newArray_107 fu (f + 1) b2 b3 b5 b7 0 v = jb_Model_newArray_156 fu b2 b3 b5 b7 v := by
    unfold jb_Model_newArray_107
    simp only [xs_let]
    by_cases q : b3 ≤ (0 : Int32).toInt64
    · rw [if_pos q]
    · rw [if_neg q, if_neg h9]
  rw [← hf] at this
  exact this
/-- what is common to the new arrays -/
theorem rf_arr (h : rFt D B len T F tc mc G z LL AA tt H x r tn y Qn u v w) (hi : y.2.1 = 262 ∨ y.2.1 = 263 ∨ y.2.1 = 264) : ∃ m c d, m < 64 ∧ T[m]? = some c ∧ c.1 = 94 ∧ c.2.1[0]? = some d ∧ d < 150 ∧ upk d < 150 ∧ m < T.length ∧ sq_arrc T (y.2.1 - 256) m (sb_n y.2.2.2.1) c d x.2.2 = some Qn ∧ (uF z AA x u).2.2.1 8 (kF z AA x) = nI m ∧ (w.2.1 0).toInt32 = nI m ∧ (uF z AA x u).2.2.1 5 m = nI (yl_f T m) ∧ w.2.2.1 7 (32 * m) = nI d ∧ (y.2.1 = 264 → ∃ kk, kk < 2 ^ 32 ∧ sb_n y.2.2.2.1 = kk ∧ (uF z AA x u).2.2.2 2 (kF z AA x) = lN kk ∧ w.2.1 1 = lN kk) := by
  obtain ⟨g0, hk, h7, h9, er, hs⟩ := rf_obj (fu := 0) h (by omega)
  have hst := rf_st h
  rw [if_neg (by omega), if_neg (by omega), if_pos (by omega)] at hs
  obtain ⟨c, hc, hs⟩ := Option.bind_eq_some_iff.mp hs
  obtain ⟨h94, hs⟩ := xp_if hs
  obtain ⟨d, hd, hs⟩ := Option.bind_eq_some_iff.mp hs
  have hT64 : T.length ≤ 64 := h.1.1.2.2.1.2.1.1
  have key : ∃ m, m < 64 ∧ yx_n y.2.2.1 = m ∧ (uF z AA x u).2.2.1 8 (kF z AA x) = nI m ∧ (w.2.1 0).toInt32 = nI m ∧ (y.2.1 = 264 → ∃ kk, kk < 2 ^ 32 ∧ sb_n y.2.2.2.1 = kk ∧ (uF z AA x u).2.2.2 2 (kF z AA x) = lN kk ∧ w.2.1 1 = lN kk) := by
    rcases rf_code h (by omega) (by omega) with ⟨a, q⟩ | ⟨a, q⟩ | q
    · obtain ⟨m, m1, m2, m3, m4⟩ := rf_117 h a hc
      exact ⟨m, m1, m2, m3, m4, fun t => by omega⟩
    · obtain ⟨m, f, m1, m2, m3, m4, n1, n2, n3, n4⟩ := rf_119 h a (by omega) hc
      exact ⟨m, m1, m2, m3, m4, fun _ => ⟨f, n1, n2, n3, n4⟩⟩
    · omega
  obtain ⟨m, m1, m2, m3, m4, m5⟩ := key
  rw [m2] at hc hs
  have hml := yl_lt hc
  have hd150 := (yCe_mv hst.1 hc hd).2.2.1
  have hu150 : upk d < 150 := by
    unfold upk
    by_cases q : d = 3 ∨ d = 4
    · rw [if_pos q]; decide
    · rw [if_neg q]; exact hd150
  have p7 := (yTM_p hst.2.2.1 hc hd).1
  rw [Nat.add_zero] at p7
  exact ⟨m, c, d, m1, hc, h94, hd, hd150, hu150, hml, hs, m3, m4, hst.1.2.2 m hml, p7, m5⟩
/-- 0xfb 6 and 0xfb 7 -/
theorem ri_anew (hfu : 18000 < fu) (h : rFt D B len T F tc mc G z LL AA tt H x r tn y Qn u v w) (hi : y.2.1 = 262 ∨ y.2.1 = 263) (hP : rPs P x r tn) : RZ D B len T F tc mc G z LL AA tt P R (fm_Machine_step fu (u.2.2.1 7 (kF z AA x)) (nI (kF z AA x)) (uF z AA x u)) (mr_st fu w) := by
  obtain ⟨g0, hk, h7, h9, er, -⟩ := rf_obj (fu := fu) h (by omega)
  obtain ⟨z1, z2, z3, z4, z5⟩ := rf_0 h
  obtain ⟨m, c, d, m1, hc, h94, hd, hd150, hu150, hml, hs, m3, m4, a5, p7, -⟩ := rf_arr h (by omega)
  have hst := rf_st h
  obtain ⟨gG, g14, g18⟩ := rf_G h
  have hT64 : T.length ≤ 64 := h.1.1.2.2.1.2.1.1
  rw [h7, hs_obj (by omega) g0 hk, if_neg (by omega), if_pos (by omega), m3, er]
  -- the class and the reference with the count on top of the stack
  have eH : ∀ (a : Int32) (nn : Nat) (sz : Nat), (uF z AA x u).1 28 = nI (nn + 1) → nn < 18000 → (uF z AA x u).2.2.2 10 nn &&& 4294967295 = lN sz → fm_Machine_doArray fu (nI (y.2.1 - 256)) (nI m) a (uF z AA x u) = xs_seq (fm_Heap_make fu (nI (yl_f T m)) (lN sz) (uF z AA x u)) fun a2 u3 => if a2 = 0 then some ((), xs_I u3 27 11) else if y.2.1 = 263 then jb_Machine_makeArray_139 fu a2 (xs_I u3 28 (u3.1 28 - 1)) else jb_Machine_makeArray_94 fu fu (nI m) (lN sz) a2 0 (xs_I (xs_I u3 28 (u3.1 28 - 1)) 28 (u3.1 28 - 1 - 1)) := by
    intro a nn sz h28 hnn hcnt
    have e0 : fm_Machine_doArray fu (nI (y.2.1 - 256)) (nI m) a (uF z AA x u) = fm_Machine_makeArray fu (nI m) (if y.2.1 = 263 then 0 else 1) (uF z AA x u) := by
      unfold fm_Machine_doArray jb_Machine_doArray_60 jb_Machine_doArray_73
      rcases hi with hi | hi
      · rw [show y.2.1 - 256 = 6 by omega, if_pos (by decide), if_pos (by decide), if_neg (by omega)]; exact xs_id
      · rw [show y.2.1 - 256 = 7 by omega, if_neg (by decide), if_pos (by decide), if_neg (by decide), if_pos (by omega)]; exact xs_id
    rw [e0]
    unfold fm_Machine_makeArray
    simp only [xs_let]
    rw [h28, nI_pred, ix18 hnn, show (nI nn).toNatClampNeg = nn from nI_clamp (by omega), hcnt, if_neg (nI_in (N := 65) (by omega) (by decide)), show (nI m).toNatClampNeg = m from nI_clamp (by omega), a5]
    refine congrArg (xs_seq (fm_Heap_make fu (nI (yl_f T m)) (lN sz) (uF z AA x u))) (funext fun a2 => funext fun u3 => ?_)
    by_cases q : y.2.1 = 263
    · rw [if_pos q, if_pos q, if_pos rfl]
    · rw [if_neg q, if_neg q, if_neg (show ¬ (1 : Int32) = 0 by decide)]; rfl
  have eM : ∀ (nn sz : Nat), w.1 26 = nI (nn + 1) → nn < 18000 → w.2.2.2 3 nn &&& 4294967295 = lN sz → fm_Model_doObjects fu w = jb_Model_newArray_47 fu (nI m) (nI d) (lN sz) w := by
    intro nn sz h26 hnn hcnt
    unfold fm_Model_doObjects
    rw [h9, if_pos (show (2 : Int32) ≤ nI (y.2.1 - 256) from nI_le (a := 2) (by omega) (by omega)), if_pos (show (6 : Int32) ≤ nI (y.2.1 - 256) from nI_le (a := 6) (by omega) (by omega)), if_neg (fun q => by have := (nI_leI (a := 9) (by omega) (by omega)).mp q; omega), xs_id]
    unfold fm_Model_newArray
    simp only [xs_let]
    rw [m4, nI_320, if_neg (nI_in (N := 2048) (by omega) (by decide)), show (nI (32 * m)).toNatClampNeg = 32 * m from nI_clamp (by omega), p7, h9, if_neg (fun q => by have := (nI_eq (b := 8) (by omega) (by decide)).mp q; omega), h26, nI_pred, ix19 (by omega), show (nI nn).toNatClampNeg = nn from nI_clamp (by omega), hcnt]
  have h98 : ¬ nI (y.2.1 - 256) = (8 : Int32) := fun q => by have := (nI_eq (b := 8) (by omega) (by decide)).mp q; omega
  unfold sq_arrc at hs
  rcases hi with hi | hi
  · rw [if_pos (by omega)] at hs
    refine ri_sgP h hP hs (fun w hw => by
      rcases List.mem_cons.mp hw with q | q
      · rw [q]; decide
      · rw [List.mem_singleton.mp q]; exact hu150) fun X hX hRS hRD => ?_
    rw [show [1, upk d].reverse = [upk d, 1] from rfl] at hRS
    generalize hW : (fW LL r ++ LL x.1) ++ X = W at *
    have hRS : RS T H ((W ++ [upk d]) ++ [1]) (uF z AA x u) w := by
      rw [List.append_assoc]; exact hRS
    have hl1 : (W ++ [upk d]).length = W.length + 1 := by rw [List.length_append, List.length_singleton]
    have hl2 : ((W ++ [upk d]) ++ [1]).length = W.length + 2 := by rw [List.length_append, hl1, List.length_singleton]
    have hW18 : W.length + 1 < 18000 := by have := hRS.2.2.1; omega
    have u28 : (uF z AA x u).1 28 = nI (W.length + 1 + 1) := by rw [hRS.1, hl2]
    have w26 : w.1 26 = nI (W.length + 1 + 1) := by rw [hRS.2.1, hl2]
    obtain ⟨-, t2, -⟩ := RS_pop hRS
    rw [hl1] at t2
    obtain ⟨y1, -, -⟩ := rv_1 t2
    obtain ⟨sz, x1, x2, -⟩ := ae_ix (w.2.2.2 3 (W.length + 1))
    rw [eH _ (W.length + 1) sz u28 hW18 (by rw [y1]; exact x2), eM (W.length + 1) sz w26 hW18 x2]
    obtain ⟨u1, v1, H1, f1, f2, s1, s2, s3⟩ := hm_make (sz := sz) hfu hst.2.2.1 hRS hRD gG g14 g18 z2 hc (Or.inl h94) x1
    rcases s3 with ⟨t1, t2, t3, t4⟩ | ⟨id, ix, t1, t2, t3, t4, t5, t6, t7⟩
    · rw [t1, ys_seq, if_pos rfl, mp_47n t2 t3]
      exact RP_11 hRD f1 f2 t3 t4 s2
    · obtain ⟨nc1, nc2, nc3, nc4, nc5, nc6⟩ := nw_cell t5
      have v9 : v1.1 9 = nI (y.2.1 - 256) := by rw [f2.1 9 (by decide)]; exact h9
      have u28' : u1.1 28 = nI (W.length + 1 + 1) := by rw [s1.1, hl2]
      have v26' : v1.1 26 = nI (W.length + 1 + 1) := by rw [s1.2.1, hl2]
      rw [t1, ys_seq, if_neg (fun q => by have := (nI_eq (b := 0) (by omega) (by decide)).mp q; omega), if_neg (by omega), mp_47 t2 t3 nc5 nc2, u28', v26', v9, if_neg h98, nI_pred, nI_pred]
      rw [mp_107 (by omega) (show ¬ (xs_I v1 26 (nI (W.length + 1))).1 9 = 8 by show ¬ v1.1 9 = 8; rw [v9]; exact h98)]
      unfold jb_Model_newArray_156
      rw [if_pos (show (xs_I v1 26 (nI (W.length + 1))).1 9 = 6 by show v1.1 9 = 6; rw [v9, hi]; rfl), mp_drop (n := W.length) rfl (by omega), ys_seq]
      have w3 : (xs_I v1 26 (nI (W.length + 1))).2.2.2 3 W.length = v1.2.2.2 3 W.length := rfl
      rw [w3]
      have hTMv : yTM T v1 := yTM_fr hst.2.2.1 f2 (by decide)
      have hTM1 : yTM T (xs_I (xs_I v1 26 (nI (W.length + 1))) 26 (nI W.length)) := hTMv
      have hCe1 : yCe T (xs_I (xs_I u1 28 (nI (W.length + 1))) 28 (nI W.length)) := (rSt_fu hst f1 (by decide)).1
      have hz1 : RHz T (H1 ++ [(id, ix, m, sz)]) (xs_I (xs_I u1 28 (nI (W.length + 1))) 28 (nI W.length)) (xs_I (xs_I v1 26 (nI (W.length + 1))) 26 (nI W.length)) := t5
      have ht1 : RHt T (H1 ++ [(id, ix, m, sz)]) (fun k i' => k < H1.length ∨ i' < 0) (xs_I (xs_I u1 28 (nI (W.length + 1))) 28 (nI W.length)) (xs_I (xs_I v1 26 (nI (W.length + 1))) 26 (nI W.length)) := fun k e c i' d he hcc hPP hi' hd' => t6 k e c i' d he hcc (by rcases hPP with q | q; exact q; omega) hi' hd'
      have hval : rv T (H1 ++ [(id, ix, m, sz)]) (upk d) (u1.2.2.2 10 W.length) (u1.2.2.1 37 W.length) (v1.2.2.2 3 W.length) := by
        have hd' : ((W ++ [upk d]) ++ [1])[W.length]? = some (upk d) := by
          rw [List.getElem?_append_left (by omega), List.getElem?_append_right (Nat.le_refl _), Nat.sub_self]; rfl
        exact rv_app (s1.2.2.2 _ _ hd').1
      obtain ⟨u2, v2, l1, l2, l3, l4, l5⟩ := na_loop (fu := fu) (H := H1) (id := id) (ix := ix) (n0 := W.length) (xm := v1.2.2.2 3 W.length) hc h94 hd m1 (by omega) sz 0 fu fu (xs_I (xs_I u1 28 (nI (W.length + 1))) 28 (nI W.length)) (xs_I (xs_I v1 26 (nI (W.length + 1))) 26 (nI W.length)) (by omega) (by omega) (by omega) hCe1 hTM1 rfl hz1 ht1 hval
      have l1' : jb_Machine_makeArray_94 fu fu (nI m) (lN sz) (nI id) 0 (xs_I (xs_I u1 28 (nI (W.length + 1))) 28 (nI W.length)) = _ := l1
      have l2' : jb_Model_newArray_174 fu fu (nI d) (lN sz) (lN (2 * ix + 2)) (nI (hS H1 + 1)) (v1.2.2.2 3 W.length) 0 (xs_I (xs_I v1 26 (nI (W.length + 1))) 26 (nI W.length)) = _ := l2
      rw [l1', l2']
      unfold jb_Machine_makeArray_139 jb_Model_newArray_204
      rw [xs_id, xs_id]
      have hu2 : yf_fr [27, 28, 30, 31, 32] [] [37, 39, 40, 41, 42, 43, 44, 45] [10, 12] (uF z AA x u) u2 := yf_trans (yf_I (yf_I (yf_mono f1 (by decide)) (by decide)) (by decide)) (yf_mono l3 (by decide))
      have hv2 : yf_fr [26, 29, 32, 33, 34] [] [29, 37, 38, 39, 40, 41, 42] [3, 5] w v2 := yf_trans (yf_I (yf_I (yf_mono f2 (by decide)) (by decide)) (by decide)) (yf_mono l4 (by decide))
      have hRSw : RS T (H1 ++ [(id, ix, m, sz)]) W (xs_I (xs_I u1 28 (nI (W.length + 1))) 28 (nI W.length)) (xs_I (xs_I v1 26 (nI (W.length + 1))) 26 (nI W.length)) := ⟨rfl, rfl, by omega, fun i d' hd' => by
        have hd2 : ((W ++ [upk d]) ++ [1])[i]? = some d' := by
          have := yl_lt hd'
          rw [List.getElem?_append_left (by omega), List.getElem?_append_left this]; exact hd'
        exact ⟨rv_app (s1.2.2.2 i d' hd2).1, (s1.2.2.2 i d' hd2).2⟩⟩
      exact RP_new (x := (id, ix, m, sz)) (u1 := u1) (v1 := v1) (show 20 + 2 * m < 150 by omega) hRD hu2 hv2 (by rw [l3.1 27 (by simp)]; show u1.1 27 = 0; rw [f1.1 27 (by decide)]; exact z1) (by rw [l4.1 29 (by simp)]; exact t3) (by omega) nc4 l5 (RG_fr (RG_app s2) (yf_I (I := [28]) (J := []) (A := [39]) (B := [12]) (yf_I yf_refl (by decide)) (by decide) |> fun a => yf_trans a (yf_mono l3 (by decide))) (by decide) (yf_I (I := [26]) (J := []) (A := []) (B := [5]) (yf_I yf_refl (by decide)) (by decide) |> fun a => yf_trans a (yf_mono l4 (by decide))) (by decide)) (RS_fv (RS_fu hRSw l3 (by decide)) l4 (by decide))
  · rw [if_neg (by omega), if_pos (by omega)] at hs
    obtain ⟨hdf, hs⟩ := xp_if hs
    refine ri_sgP h hP hs (fun w hw => by rw [List.mem_singleton.mp hw]; decide) fun X hX hRS hRD => ?_
    rw [show [1].reverse = [1] from rfl] at hRS
    generalize hW : (fW LL r ++ LL x.1) ++ X = W at *
    have hl1 : (W ++ [1]).length = W.length + 1 := by rw [List.length_append, List.length_singleton]
    have hW18 : W.length < 18000 := by have := hRS.2.2.1; omega
    have u28 : (uF z AA x u).1 28 = nI (W.length + 1) := by rw [hRS.1, hl1]
    have w26 : w.1 26 = nI (W.length + 1) := by rw [hRS.2.1, hl1]
    obtain ⟨-, t2, -⟩ := RS_pop hRS
    obtain ⟨y1, -, -⟩ := rv_1 t2
    obtain ⟨sz, x1, x2, -⟩ := ae_ix (w.2.2.2 3 W.length)
    rw [eH _ W.length sz u28 hW18 (by rw [y1]; exact x2), eM W.length sz w26 hW18 x2]
    obtain ⟨u1, v1, H1, f1, f2, s1, s2, s3⟩ := hm_make (sz := sz) hfu hst.2.2.1 hRS hRD gG g14 g18 z2 hc (Or.inl h94) x1
    rcases s3 with ⟨t1, t2, t3, t4⟩ | ⟨id, ix, t1, t2, t3, t4, t5, t6, t7⟩
    · rw [t1, ys_seq, if_pos rfl, mp_47n t2 t3]
      exact RP_11 hRD f1 f2 t3 t4 s2
    · obtain ⟨nc1, nc2, nc3, nc4, nc5, nc6⟩ := nw_cell t5
      have v9 : v1.1 9 = nI (y.2.1 - 256) := by rw [f2.1 9 (by decide)]; exact h9
      have u28' : u1.1 28 = nI (W.length + 1) := by rw [s1.1, hl1]
      have v26' : v1.1 26 = nI (W.length + 1) := by rw [s1.2.1, hl1]
      rw [t1, ys_seq, if_neg (fun q => by have := (nI_eq (b := 0) (by omega) (by decide)).mp q; omega), if_pos hi, mp_47 t2 t3 nc5 nc2, u28', v26', v9, if_neg h98, nI_pred]
      rw [mp_107 (by omega) (show ¬ (xs_I v1 26 (nI W.length)).1 9 = 8 by show ¬ v1.1 9 = 8; rw [v9]; exact h98)]
      unfold jb_Model_newArray_156
      rw [if_neg (show ¬ (xs_I v1 26 (nI W.length)).1 9 = 6 by show ¬ v1.1 9 = 6; rw [v9, hi]; decide)]
      unfold jb_Machine_makeArray_139 jb_Model_newArray_204
      rw [xs_id, xs_id]
      have hTM1 : yTM T v1 := yTM_fr hst.2.2.1 f2 (by decide)
      have hH1 := nw_zero hTM1 t5 t6 t7 hc (fun i d' hd' hi' => by
        unfold pT at hd'
        rw [if_pos h94, hd] at hd'
        cases hd'; exact hdf)
      have hu2 : yf_fr [27, 28, 30, 31, 32] [] [37, 39, 40, 41, 42, 43, 44, 45] [10, 12] (uF z AA x u) (xs_I u1 28 (nI W.length)) := yf_I (yf_mono f1 (by decide)) (by decide)
      have hv2 : yf_fr [26, 29, 32, 33, 34] [] [29, 37, 38, 39, 40, 41, 42] [3, 5] w (xs_I v1 26 (nI W.length)) := yf_I (yf_mono f2 (by decide)) (by decide)
      have hRSw : RS T (H1 ++ [(id, ix, m, sz)]) W (xs_I u1 28 (nI W.length)) (xs_I v1 26 (nI W.length)) := ⟨rfl, rfl, by omega, fun i d' hd' => by
        have hd2 : (W ++ [1])[i]? = some d' := by rw [List.getElem?_append_left (yl_lt hd')]; exact hd'
        exact ⟨rv_app (s1.2.2.2 i d' hd2).1, (s1.2.2.2 i d' hd2).2⟩⟩
      exact RP_new (x := (id, ix, m, sz)) (u1 := u1) (v1 := v1) (show 20 + 2 * m < 150 by omega) hRD hu2 hv2 (by show u1.1 27 = 0; rw [f1.1 27 (by decide)]; exact z1) t3 hW18 nc4 hH1 (RG_app s2) hRSw
end
