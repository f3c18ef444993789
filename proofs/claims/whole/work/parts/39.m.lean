section
variable {α β γ δ σ τ : Type} {B : Nat → Int32} {u v w u' v' u0 v0 : xk_St} {T : List (Nat × List Nat × List Nat)} {F : List Nat} {G : List (Nat × Nat × Nat × Int64)} {L W0 : List Nat} {n fu tc mc lim p q len f D k tn tn' j d b g m i : Nat} {z : Nat → Nat} {LL : Nat → List Nat} {AA : Nat → sBo} {tt : Nat → Nat} {H H' : rH} {fs r rr : List rFr} {x x' : rFr} {c : Nat × List Nat × List Nat} {e : Nat × Nat × Nat × Nat} {y : Nat × sIn} {Q Qn Q1 : List sFr} {P : List rFr → Nat → Prop} {R : List Nat}
theorem RP_v {W : List Nat} {a : Int32} {ou ov : Option (Unit × xk_St)} (h : RP T F tc G W u (xs_I v 26 a) ou ov) : RP T F tc G W u v ou ov := by
  obtain ⟨u', v', o1, o2, o3, o4, o5⟩ := h
  exact ⟨u', v', o1, o2, o3, yf_trans (yf_I yf_refl (by decide)) o4, o5⟩
/-- 0xfb 14 and 0xfb 16 -/
theorem ri_aset (hfu : 18000 < fu) (h : rFt D B len T F tc mc G z LL AA tt H x r tn y Qn u v w) (hi : y.2.1 = 270 ∨ y.2.1 = 272) (hP : rPs P x r tn) : RZ D B len T F tc mc G z LL AA tt P R (fm_Machine_step fu (u.2.2.1 7 (kF z AA x)) (nI (kF z AA x)) (uF z AA x u)) (mr_st fu w) := by
  obtain ⟨g0, hk, h7, h9, er, hs⟩ := rf_obj (fu := fu) h (by omega)
  obtain ⟨z1, z2, z3, z4, z5⟩ := rf_0 h
  have hx : xt_S y.2.1 = 117 := by
    rcases rf_code h (by omega) (by omega) with ⟨a, q⟩ | ⟨a, q⟩ | q
    · exact a
    · omega
    · omega
  rw [if_neg (by omega), if_neg (by omega), if_pos (by omega)] at hs
  obtain ⟨c, hc, hs⟩ := Option.bind_eq_some_iff.mp hs
  obtain ⟨h94, hs⟩ := xp_if hs
  obtain ⟨d, hd, hs⟩ := Option.bind_eq_some_iff.mp hs
  obtain ⟨m, m1, m2, m3, m4⟩ := rf_117 h hx hc
  rw [m2] at hc hs
  unfold sq_arrc at hs
  rw [if_neg (by omega), if_neg (by omega), if_neg (by omega), if_neg (by omega)] at hs
  obtain ⟨hmut, hs⟩ := xp_if hs
  have hst := rf_st h
  have hd150 := (yCe_mv hst.1 hc hd).2.2.1
  have hu150 : upk d < 150 := by
    unfold upk
    by_cases q : d = 3 ∨ d = 4
    · rw [if_pos q]; decide
    · rw [if_neg q]; exact hd150
  have hT64 : T.length ≤ 64 := h.1.1.2.2.1.2.1.1
  rw [h7, hs_obj (by omega) g0 hk, if_neg (by omega), if_pos (by omega), m3, er]
  rcases hi with hi | hi
  · have ho : y.2.1 - 256 = 14 := by omega
    rw [ho] at hs h9 ⊢
    rw [if_neg (by decide)] at hs
    refine ri_sgP h hP hs (fun w hw => by
      rcases List.mem_cons.mp hw with q | q
      · rw [q]; exact hu150
      · rcases List.mem_cons.mp q with q | q
        · rw [q]; decide
        · rw [List.mem_singleton.mp q]; omega) fun X hX hRS hRD => ?_
    rw [show [upk d, 1, 21 + 2 * m].reverse = [21 + 2 * m, 1, upk d] from rfl] at hRS
    generalize hW : (fW LL r ++ LL x.1) ++ X = W at *
    have hRS : RS T H (((W ++ [21 + 2 * m]) ++ [1]) ++ [upk d]) (uF z AA x u) w := by
      rw [List.append_assoc, List.append_assoc]; exact hRS
    have hl1 : (W ++ [21 + 2 * m]).length = W.length + 1 := by rw [List.length_append, List.length_singleton]
    have hl2 : ((W ++ [21 + 2 * m]) ++ [1]).length = W.length + 2 := by rw [List.length_append, hl1, List.length_singleton]
    have hl3 : (((W ++ [21 + 2 * m]) ++ [1]) ++ [upk d]).length = W.length + 3 := by rw [List.length_append, hl2, List.length_singleton]
    have hW18 : W.length + 2 < 18000 := by have := hRS.2.2.1; omega
    obtain ⟨v1, v2, -⟩ := RS_pop hRS
    obtain ⟨w1, w2, -⟩ := RS_pop v1
    obtain ⟨c1, c2, -⟩ := RS_pop w1
    rw [hl2] at v2
    rw [hl1] at w2
    have u28 : (uF z AA x u).1 28 = nI (W.length + 3) := by rw [hRS.1, hl3]
    have w26 : w.1 26 = nI (W.length + 3) := by rw [hRS.2.1, hl3]
    have e1 : ∀ a, fm_Machine_doArray fu (nI 14) (nI m) a (uF z AA x u) = fm_Machine_setElements fu (nI m) (nI W.length) (lN 1) (uF z AA x u) := by
      intro a
      unfold fm_Machine_doArray
      rw [if_neg (by decide), if_neg (by decide), if_neg (by decide), if_neg (by decide), if_neg (by decide), if_neg (by decide), if_neg (by decide), if_neg (by decide), if_pos (by decide), u28, nI_sub3, xs_id]; rfl
    have e2 : fm_Model_doObjects fu w = jb_Model_doArray_70 fu (lN 1) (w.2.2.2 3 (W.length + 2)) (w.2.2.2 3 (W.length + 1) &&& 4294967295) (xs_I (xs_I w 26 (nI (W.length + 2))) 26 (nI (W.length + 1))) := by
      unfold fm_Model_doObjects
      rw [h9, if_pos (by decide), if_pos (by decide), if_pos (by decide), if_neg (by decide), xs_id]
      unfold fm_Model_doArray jb_Model_doArray_21 jb_Model_doArray_40 jb_Model_doArray_48
      rw [h9, if_neg (by decide), if_pos (by decide), mp_drop (n := W.length + 2) w26 (by omega), ys_seq]
      have w9 : (xs_I w 26 (nI (W.length + 2))).1 9 = nI 14 := h9
      rw [w9, if_neg (by decide), mp_drop (n := W.length + 1) rfl (by omega), ys_seq]; rfl
    rw [e1, e2, List.append_nil]
    refine RP_v (a := nI (W.length + 2)) ?_
    have hTM1 : yTM T (xs_I w 26 (nI (W.length + 2))) := hst.2.2.1
    have hRD1 : RD T F tc H G (uF z AA x u) (xs_I w 26 (nI (W.length + 2))) := RD_fv hRD (yf_I (I := [26]) (J := []) (A := []) (B := []) yf_refl (by decide)) (by decide)
    exact RP_fill (cnt := 1) hfu hst.1 hTM1 hRD1 z1 z2 hW18 ⟨rfl, rfl, c1.2.2.1, c1.2.2.2⟩ c2 w2 v2 hc h94 hd (by decide) (by show (14 : Int32) ≤ w.1 9; rw [h9]; decide) (by show ¬ w.1 9 = 15; rw [h9]; decide) m4
  · have ho : y.2.1 - 256 = 16 := by omega
    rw [ho] at hs h9 ⊢
    rw [if_pos rfl] at hs
    refine ri_sgP h hP hs (fun w hw => by
      rcases List.mem_cons.mp hw with q | q
      · rw [q]; decide
      · rcases List.mem_cons.mp q with q | q
        · rw [q]; exact hu150
        · rcases List.mem_cons.mp q with q | q
          · rw [q]; decide
          · rw [List.mem_singleton.mp q]; omega) fun X hX hRS hRD => ?_
    rw [show [1, upk d, 1, 21 + 2 * m].reverse = [21 + 2 * m, 1, upk d, 1] from rfl] at hRS
    generalize hW : (fW LL r ++ LL x.1) ++ X = W at *
    have hRS : RS T H ((((W ++ [21 + 2 * m]) ++ [1]) ++ [upk d]) ++ [1]) (uF z AA x u) w := by
      rw [List.append_assoc, List.append_assoc, List.append_assoc]; exact hRS
    have hl1 : (W ++ [21 + 2 * m]).length = W.length + 1 := by rw [List.length_append, List.length_singleton]
    have hl2 : ((W ++ [21 + 2 * m]) ++ [1]).length = W.length + 2 := by rw [List.length_append, hl1, List.length_singleton]
    have hl3 : (((W ++ [21 + 2 * m]) ++ [1]) ++ [upk d]).length = W.length + 3 := by rw [List.length_append, hl2, List.length_singleton]
    have hl4 : ((((W ++ [21 + 2 * m]) ++ [1]) ++ [upk d]) ++ [1]).length = W.length + 4 := by rw [List.length_append, hl3, List.length_singleton]
    have hW18 : W.length + 3 < 18000 := by have := hRS.2.2.1; omega
    obtain ⟨t1, t2, -⟩ := RS_pop hRS
    obtain ⟨v1, v2, -⟩ := RS_pop t1
    obtain ⟨w1, w2, -⟩ := RS_pop v1
    obtain ⟨c1, c2, -⟩ := RS_pop w1
    rw [hl3] at t2
    rw [hl2] at v2
    rw [hl1] at w2
    have u28 : (uF z AA x u).1 28 = nI (W.length + 4) := by rw [hRS.1, hl4]
    have w26 : w.1 26 = nI (W.length + 4) := by rw [hRS.2.1, hl4]
    obtain ⟨y1, y2, y3⟩ := rv_1 t2
    obtain ⟨cnt, x1, x2, -⟩ := ae_ix (w.2.2.2 3 (W.length + 3))
    have ux2 : (uF z AA x u).2.2.2 10 (W.length + 3) &&& 4294967295 = lN cnt := by rw [y1]; exact x2
    have e1 : ∀ a, fm_Machine_doArray fu (nI 16) (nI m) a (uF z AA x u) = fm_Machine_setElements fu (nI m) (nI W.length) (lN cnt) (uF z AA x u) := by
      intro a
      unfold fm_Machine_doArray
      rw [if_neg (by decide), if_neg (by decide), if_neg (by decide), if_neg (by decide), if_neg (by decide), if_neg (by decide), if_neg (by decide), if_neg (by decide), if_neg (by decide), if_neg (by decide), if_pos (by decide), u28, show nI (W.length + 4) - 4 = nI W.length from nI_subb (b := 4), show nI (W.length + 4) - 1 = nI (W.length + 3) from nI_pred (n := W.length + 3), ix18 (by omega), show (nI (W.length + 3)).toNatClampNeg = W.length + 3 from nI_clamp (by omega), ux2, xs_id]
    have e2 : fm_Model_doObjects fu w = jb_Model_doArray_70 fu (lN cnt) (w.2.2.2 3 (W.length + 2)) (w.2.2.2 3 (W.length + 1) &&& 4294967295) (xs_I (xs_I (xs_I w 26 (nI (W.length + 3))) 26 (nI (W.length + 2))) 26 (nI (W.length + 1))) := by
      unfold fm_Model_doObjects
      rw [h9, if_pos (by decide), if_pos (by decide), if_pos (by decide), if_neg (by decide), xs_id]
      unfold fm_Model_doArray
      rw [h9, if_pos (by decide), mp_drop (n := W.length + 3) w26 (by omega), ys_seq, x2]
      unfold jb_Model_doArray_21 jb_Model_doArray_40 jb_Model_doArray_48
      have w9 : (xs_I w 26 (nI (W.length + 3))).1 9 = nI 16 := h9
      rw [w9, if_neg (by decide), if_pos (by decide), mp_drop (n := W.length + 2) rfl (by omega), ys_seq]
      have w9 : (xs_I (xs_I w 26 (nI (W.length + 3))) 26 (nI (W.length + 2))).1 9 = nI 16 := h9
      rw [w9, if_neg (by decide), mp_drop (n := W.length + 1) rfl (by omega), ys_seq]; rfl
    rw [e1, e2, List.append_nil]
    refine RP_v (a := nI (W.length + 3)) (RP_v (a := nI (W.length + 2)) ?_)
    have hTM1 : yTM T (xs_I (xs_I w 26 (nI (W.length + 3))) 26 (nI (W.length + 2))) := hst.2.2.1
    have hRD1 : RD T F tc H G (uF z AA x u) (xs_I (xs_I w 26 (nI (W.length + 3))) 26 (nI (W.length + 2))) := RD_fv hRD (yf_I (I := [26]) (J := []) (A := []) (B := []) (yf_I yf_refl (by decide)) (by decide)) (by decide)
    exact RP_fill (cnt := cnt) hfu hst.1 hTM1 hRD1 z1 z2 (by omega) ⟨rfl, rfl, c1.2.2.1, c1.2.2.2⟩ c2 w2 v2 hc h94 hd x1 (by show (14 : Int32) ≤ w.1 9; rw [h9]; decide) (by show ¬ w.1 9 = 15; rw [h9]; decide) m4
end
