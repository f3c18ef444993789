section
variable {α β γ δ σ τ : Type} {B : Nat → Int32} {u v w u' v' u0 v0 : xk_St} {T : List (Nat × List Nat × List Nat)} {F : List Nat} {G : List (Nat × Nat × Nat × Int64)} {L W0 : List Nat} {n fu tc mc lim p q len f D k tn tn' j d b g m i : Nat} {z : Nat → Nat} {LL : Nat → List Nat} {AA : Nat → sBo} {tt : Nat → Nat} {H H' : rH} {fs r rr : List rFr} {x x' : rFr} {c : Nat × List Nat × List Nat} {e : Nat × Nat × Nat × Nat} {y : Nat × sIn} {Q Qn Q1 : List sFr} {P : List rFr → Nat → Prop} {R : List Nat}
theorem RD_pop {a b : Int32} (h : RD T F tc H G u v) : RD T F tc H G (xs_I u 28 a) (xs_I v 26 b) := RD_fv (RD_fu h (yf_I (I := [28]) (J := []) (A := []) (B := []) yf_refl (by decide)) (by decide)) (yf_I (I := [26]) (J := []) (A := []) (B := []) yf_refl (by decide)) (by decide)
theorem RD_set {cc : Nat} {a bb : Int64} {ff : Int32} (h : RD T F tc H G u v) (hH : RHp T H (uC u cc a ff) (xs_B v 5 cc bb)) : RD T F tc H G (uC u cc a ff) (xs_B v 5 cc bb) := ⟨hH, h.2.1, h.2.2.1, h.2.2.2⟩
theorem RS_setc {cc : Nat} {a bb : Int64} {ff : Int32} {W : List Nat} (h : RS T H W u v) : RS T H W (uC u cc a ff) (xs_B v 5 cc bb) := RS_fv (RS_fu h uC_f (by decide)) (yf_B (I := []) (J := []) (A := []) (B := [5]) yf_refl (by decide)) (by decide)
/-- 0xfb 5 -/
theorem ri_sset (h : rFt D B len T F tc mc G z LL AA tt H x r tn y Qn u v w) (hi : y.2.1 = 261) (hP : rPs P x r tn) : RZ D B len T F tc mc G z LL AA tt P R (fm_Machine_step fu (u.2.2.1 7 (kF z AA x)) (nI (kF z AA x)) (uF z AA x u)) (mr_st fu w) := by
  obtain ⟨g0, hk, h7, h9, er, hs⟩ := rf_obj (fu := fu) h (by omega)
  obtain ⟨z1, z2, z3, z4, z5⟩ := rf_0 h
  have hx : xt_S y.2.1 = 119 := by
    rcases rf_code h (by omega) (by omega) with ⟨a, q⟩ | ⟨a, q⟩ | q
    · omega
    · exact a
    · omega
  rw [if_pos (by omega)] at hs
  obtain ⟨c, hc, hs⟩ := Option.bind_eq_some_iff.mp hs
  obtain ⟨h95, hs⟩ := xp_if hs
  obtain ⟨m, f, m1, m2, m3, m4, n1, n2, n3, n4⟩ := rf_119 h hx (by omega) hc
  rw [m2] at hc hs
  rw [n2] at hs
  have ho : y.2.1 - 256 = 5 := by omega
  rw [ho] at hs h9
  rw [h7, hs_obj (by omega) g0 hk, if_neg (by omega), if_neg (by omega), ho, m3, n3, er]
  unfold sq_strc at hs
  rw [if_neg (by omega), if_neg (by omega)] at hs
  obtain ⟨d, hd, hs⟩ := Option.bind_eq_some_iff.mp hs
  rw [if_pos rfl] at hs
  obtain ⟨hmut, hs⟩ := xp_if hs
  have hst := rf_st h
  have hd150 := (yCe_mv hst.1 hc hd).2.2.1
  have hd0 := (yCe_mv hst.1 hc hd).2.1
  obtain ⟨p7, f16, -⟩ := yTM_p hst.2.2.1 hc hd
  have hu150 : upk d < 150 := by
    unfold upk
    by_cases q : d = 3 ∨ d = 4
    · rw [if_pos q]; decide
    · rw [if_neg q]; exact hd150
  refine ri_sgP h hP hs (fun w hw => by
    rcases List.mem_cons.mp hw with q | q
    · rw [q]; exact hu150
    · rw [List.mem_singleton.mp q]; omega) fun X hX hRS hRD => ?_
  rw [show [upk d, 21 + 2 * m].reverse = [21 + 2 * m, upk d] from rfl] at hRS
  generalize hW : (fW LL r ++ LL x.1) ++ X = W at *
  have hRS : RS T H ((W ++ [21 + 2 * m]) ++ [upk d]) (uF z AA x u) w := by
    rw [List.append_assoc]; exact hRS
  have hl : (W ++ [21 + 2 * m]).length = W.length + 1 := by rw [List.length_append, List.length_singleton]
  have hl2 : ((W ++ [21 + 2 * m]) ++ [upk d]).length = W.length + 2 := by rw [List.length_append, hl, List.length_singleton]
  have hW18 : W.length + 1 < 18000 := by have := hRS.2.2.1; omega
  obtain ⟨v1, v2, v3⟩ := RS_pop hRS
  obtain ⟨c1, c2, c3⟩ := RS_pop v1
  rw [hl] at v2 v1 c1
  have u28 : (uF z AA x u).1 28 = nI (W.length + 2) := by rw [hRS.1, hl2]
  have w26 : w.1 26 = nI (W.length + 2) := by rw [hRS.2.1, hl2]
  have hH := hRD.1
  obtain ⟨hz, -⟩ := RHp_iff.mp hH
  have c2 : rv T H (21 + 2 * m) ((uF z AA x u).2.2.2 10 W.length) ((uF z AA x u).2.2.1 37 W.length) (w.2.2.2 3 W.length) := c2
  have hK := rK_0 hH (rv_K c2 (by omega))
  have hf32 : (lN f).toInt32 = nI f := sb_nLi (by omega)
  have e1 : fm_Machine_doStructure fu (nI 5) (nI m) (lN f).toInt32 (uF z AA x u) = jb_Machine_doStructure_55 fu (nI 5) (nI m) (nI f) (nI W.length) (uF z AA x u) := by
    unfold fm_Machine_doStructure
    rw [if_pos (by decide), if_pos (by decide), u28, nI_sub2, hf32]
  have e2 : fm_Model_doObjects fu w = jb_Model_doField_36 (nI d) (w.2.2.2 3 (W.length + 1)) (xs_I w 26 (nI (W.length + 1))) := by
    unfold fm_Model_doObjects
    rw [h9, if_pos (by decide), if_neg (by decide), xs_id]
    unfold fm_Model_doField
    simp only [xs_let]
    rw [m4, n4, hf32, nI_32, if_neg (nI_in (N := 2048) (by omega) (by decide)), show (nI (32 * m + f)).toNatClampNeg = 32 * m + f from nI_clamp (by omega), p7, h9, if_pos (by decide), mp_drop (n := W.length + 1) w26 hW18, ys_seq]
  rw [e1, e2]
  unfold jb_Machine_doStructure_55 jb_Model_doField_36
  simp only [xs_let]
  rw [ix18 (by omega), show (nI W.length).toNatClampNeg = W.length from nI_clamp (by omega), mp_drop (n := W.length) rfl (by omega), ys_seq]
  have w3 : (xs_I w 26 (nI (W.length + 1))).2.2.2 3 W.length = w.2.2.2 3 W.length := rfl
  rw [w3]
  by_cases c0 : (uF z AA x u).2.2.2 10 W.length = 0
  · rw [if_pos (by rw [c0]; decide), if_pos (hK.mp c0)]
    refine ⟨_, _, rfl, rfl, yf_I yf_refl (by decide), yf_I (yf_I (yf_I yf_refl (by decide)) (by decide)) (by decide), Or.inr ⟨8, H, by decide, by decide, rfl, rfl, ?_⟩⟩
    exact RD_fv (RD_fu hRD (yf_I (I := [27]) (J := []) (A := []) (B := []) yf_refl (by decide)) (by decide)) (yf_I (I := [26, 29]) (J := []) (A := []) (B := []) (yf_I (yf_I yf_refl (by decide)) (by decide)) (by decide)) (by decide)
  · obtain ⟨k, e, he, r1, r2, r3⟩ := rv_obj c2 c0
    obtain ⟨i1, i2, i3, i4⟩ := rh_obj hz he
    obtain ⟨⟨b1, b2, b3⟩, ⟨o1, o2, o3, o4, o5⟩, ⟨q1, q2, q3, q4⟩, -⟩ := hz.2.1 k e he
    obtain ⟨t1, -⟩ := rh_part hst.2.2.1 hz he r3 hc
    have hsz : e.2.2.2 = c.2.1.length := by
      rcases t1 with q | q
      · omega
      · exact q.2
    have hfl := yl_lt hd
    have htop := hS_top he
    have h2000 := hz.1.2.2.1
    have hdp : pT c f = some d := by unfold pT; rw [if_neg (by omega)]; exact hd
    have hcc : hS (H.take k) + 1 + f < 2000 := by omega
    rw [r1, r2, i1, if_neg (show ¬ nI e.1 = 0 from fun q => i2 (i1.trans q)), if_neg i3, hp_cell hz he, ys_seq, yCe_m hst.1 hc hd, ys_seq, if_pos (show nI 5 = (5 : Int32) from rfl), if_neg (show ¬ (2 : Int64) = 0 by decide), i4, ix2001 (by omega), show (nI e.2.1).toNatClampNeg = e.2.1 from nI_clamp (by omega), nI_1]
    have w37 : (xs_I (xs_I w 26 (nI (W.length + 1))) 26 (nI W.length)).2.2.1 37 e.2.1 = nI (hS (H.take k) + 1) := q1
    have w1 : (xs_I (xs_I w 26 (nI (W.length + 1))) 26 (nI W.length)).2.1 1 = lN f := n4
    have w9 : (xs_I (xs_I w 26 (nI (W.length + 1))) 26 (nI W.length)).1 9 = nI 5 := h9
    rw [w37, w1, w9, hf32, nI_add, if_pos (show nI 5 = (5 : Int32) from rfl), hp_setCell hd150 hcc hW18 (rv_f v2), ys_seq, mp_packed hd150, ys_seq, ix2001 (by omega), show (nI (hS (H.take k) + 1 + f)).toNatClampNeg = hS (H.take k) + 1 + f from nI_clamp (by omega)]
    unfold jb_Machine_doStructure_122
    simp only [xs_let]
    rw [if_pos (show nI 5 = (5 : Int32) from rfl), List.append_nil]
    have c1' : RS T H W (xs_I (uF z AA x u) 28 (nI W.length)) (xs_I (xs_I w 26 (nI (W.length + 1))) 26 (nI W.length)) := ⟨rfl, rfl, c1.2.2.1, c1.2.2.2⟩
    have hD1 : RD T F tc H G (xs_I (uF z AA x u) 28 (nI W.length)) (xs_I (xs_I w 26 (nI (W.length + 1))) 26 (nI W.length)) := RD_fv (RD_pop (a := nI W.length) (b := nI (W.length + 1)) hRD) (yf_I (I := [26]) (J := []) (A := []) (B := []) yf_refl (by decide)) (by decide)
    have hrv := rv_mk v2
    refine ⟨_, _, rfl, rfl, yf_I (yf_mono uC_f (by decide)) (by decide), yf_B (yf_I (yf_I yf_refl (by decide)) (by decide)) (by decide), Or.inl ⟨z1, z2, H, ?_, ?_⟩⟩
    · exact RS_setc c1'
    · exact RD_set hD1 (RHp_set hD1.1 he (by omega) (rh_put hst.2.2.1 hz he r3 hc hdp hrv))
end
