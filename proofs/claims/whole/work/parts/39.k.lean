section
variable {α β γ δ σ τ : Type} {B : Nat → Int32} {u v w u' v' u0 v0 : xk_St} {T : List (Nat × List Nat × List Nat)} {F : List Nat} {G : List (Nat × Nat × Nat × Int64)} {L W0 : List Nat} {n fu tc mc lim p q len f D k tn tn' j d b g m i : Nat} {z : Nat → Nat} {LL : Nat → List Nat} {AA : Nat → sBo} {tt : Nat → Nat} {H H' : rH} {fs r rr : List rFr} {x x' : rFr} {c : Nat × List Nat × List Nat} {e : Nat × Nat × Nat × Nat} {y : Nat × sIn} {Q Qn Q1 : List sFr} {P : List rFr → Nat → Prop} {R : List Nat}
/-- 0xfb 11 .. 13 -/
theorem ri_aget (hfu : 18000 < fu) (h : rFt D B len T F tc mc G z LL AA tt H x r tn y Qn u v w) (hi : y.2.1 = 267 ∨ y.2.1 = 268 ∨ y.2.1 = 269) (hP : rPs P x r tn) : RZ D B len T F tc mc G z LL AA tt P R (fm_Machine_step fu (u.2.2.1 7 (kF z AA x)) (nI (kF z AA x)) (uF z AA x u)) (mr_st fu w) := by
  obtain ⟨g0, hk, h7, h9, er, hs⟩ := rf_obj (fu := fu) h (by omega)
  obtain ⟨z1, z2, z3, z4, z5⟩ := rf_0 h
  have hx : xt_S y.2.1 = 117 := by
    rcases rf_code h (by omega) (by omega) with ⟨a, q⟩ | ⟨a, q⟩ | q
    · exact a
    · omega
    · omega
  rw [if_neg (by omega), if_neg (by omega), if_pos (by omega)] at hs
  obtain ⟨c, hc, hs⟩ := Option.bind_eq_some_iff.mp hs
  obtain ⟨h94, hs⟩ := xp_if hs
  obtain ⟨d, hd, hs⟩ := Option.bind_eq_some_iff.mp hs
  obtain ⟨m, m1, m2, m3, m4⟩ := rf_117 h hx hc
  rw [m2] at hc hs
  obtain ⟨o, ho⟩ : ∃ o, o = y.2.1 - 256 := ⟨_, rfl⟩
  rw [← ho] at hs h9
  have ho' : o = 11 ∨ o = 12 ∨ o = 13 := by omega
  rw [h7, hs_obj (by omega) g0 hk, if_neg (by omega), if_pos (by omega), ← ho, m3, er]
  unfold sq_arrc at hs
  rw [if_neg (by omega), if_neg (by omega), if_neg (by omega), if_pos (by omega)] at hs
  obtain ⟨hpk, hs⟩ := xp_if hs
  have hst := rf_st h
  have hH := (rf_RD h).1
  obtain ⟨hz, -⟩ := RHp_iff.mp hH
  have hd150 := (yCe_mv hst.1 hc hd).2.2.1
  obtain ⟨p7, -, -⟩ := yTM_p hst.2.2.1 hc hd
  rw [Nat.add_zero] at p7
  refine ri_sg h hP hs (fun w hw => by
    rcases List.mem_cons.mp hw with q | q
    · rw [q]; decide
    · rw [List.mem_singleton.mp q]; omega) fun W hX hRS => ?_
  rw [show [1, 21 + 2 * m].reverse = [21 + 2 * m, 1] from rfl] at hRS
  have hRS : RS T H ((W ++ [21 + 2 * m]) ++ [1]) (uF z AA x u) w := by
    rw [List.append_assoc]; exact hRS
  have hl : (W ++ [21 + 2 * m]).length = W.length + 1 := by rw [List.length_append, List.length_singleton]
  have hl2 : ((W ++ [21 + 2 * m]) ++ [1]).length = W.length + 2 := by rw [List.length_append, hl, List.length_singleton]
  have hW18 : W.length + 1 < 18000 := by have := hRS.2.2.1; omega
  obtain ⟨v1, v2, v3⟩ := RS_pop hRS
  obtain ⟨c1, c2, c3⟩ := RS_pop v1
  rw [hl] at v2 v1 c1
  have u28 : (uF z AA x u).1 28 = nI (W.length + 2) := by rw [hRS.1, hl2]
  have w26 : w.1 26 = nI (W.length + 2) := by rw [hRS.2.1, hl2]
  have c2 : rv T H (21 + 2 * m) ((uF z AA x u).2.2.2 10 W.length) ((uF z AA x u).2.2.1 37 W.length) (w.2.2.2 3 W.length) := c2
  have hK := rK_0 hH (rv_K c2 (by omega))
  obtain ⟨y1, y2, y3⟩ := rv_1 v2
  obtain ⟨ix, x1, x2, x3⟩ := ae_ix (w.2.2.2 3 (W.length + 1))
  have ux2 : (uF z AA x u).2.2.2 10 (W.length + 1) &&& 4294967295 = lN ix := by rw [y1]; exact x2
  obtain ⟨sg, hsg1, hsg2⟩ : ∃ sg : Int32, (sg = if o = 12 then 1 else 0) ∧ (sg = 0 ∨ (sg = 1 ∧ (d = 3 ∨ d = 4))) := by
    refine ⟨_, rfl, ?_⟩
    by_cases q : o = 12
    · rw [if_pos q]; exact Or.inr ⟨rfl, hpk.mpr (by omega)⟩
    · rw [if_neg q]; exact Or.inl rfl
  have e1 : ∀ a, fm_Machine_doArray fu (nI o) (nI m) a (uF z AA x u) = fm_Machine_pushElement (nI m) sg (uF z AA x u) := by
    intro a
    unfold fm_Machine_doArray jb_Machine_doArray_189 jb_Machine_doArray_202
    rw [xs_id, xs_id, hsg1]
    rcases ho' with rfl | rfl | rfl
    · rw [if_neg (by decide), if_neg (by decide), if_neg (by decide), if_neg (by decide), if_neg (by decide), if_pos (by decide), if_neg (by decide)]; exact xs_id
    · rw [if_neg (by decide), if_neg (by decide), if_neg (by decide), if_neg (by decide), if_neg (by decide), if_neg (by decide), if_pos (by decide), if_pos (by decide)]; rfl
    · rw [if_neg (by decide), if_neg (by decide), if_neg (by decide), if_neg (by decide), if_neg (by decide), if_neg (by decide), if_neg (by decide), if_pos (by decide), if_neg (by decide)]; exact xs_id
  have h915 : ¬ (xs_I w 26 (nI (W.length + 1))).1 9 = 15 := by
    show ¬ w.1 9 = 15
    rw [h9]
    exact fun q => by have := (nI_eq (b := 15) (by omega) (by decide)).mp q; omega
  have e2 : fm_Model_doObjects fu w = jb_Model_doArray_70 fu (lN 1) 0 (lN ix) (xs_I w 26 (nI (W.length + 1))) := by
    unfold fm_Model_doObjects
    rw [h9, if_pos (show (2 : Int32) ≤ nI o from nI_le (a := 2) (by omega) (by omega)), if_pos (show (6 : Int32) ≤ nI o from nI_le (a := 6) (by omega) (by omega)), if_pos (show (9 : Int32) ≤ nI o from nI_le (a := 9) (by omega) (by omega)), if_neg (fun q => by have := (nI_leI (a := 17) (by omega) (by omega)).mp q; omega), xs_id]
    unfold fm_Model_doArray jb_Model_doArray_21 jb_Model_doArray_48
    rw [h9, if_neg (show ¬ nI o = (16 : Int32) from fun q => by have := (nI_eq (b := 16) (by omega) (by decide)).mp q; omega), if_neg (show ¬ nI o = (14 : Int32) from fun q => by have := (nI_eq (b := 14) (by omega) (by decide)).mp q; omega), if_neg (show ¬ nI o = (16 : Int32) from fun q => by have := (nI_eq (b := 16) (by omega) (by decide)).mp q; omega), if_neg (show ¬ nI o = (15 : Int32) from fun q => by have := (nI_eq (b := 15) (by omega) (by decide)).mp q; omega), mp_drop (n := W.length + 1) w26 hW18, ys_seq, x2]; rfl
  rw [e1, e2]
  unfold fm_Machine_pushElement
  simp only [xs_let]
  rw [u28, nI_sub2]
  obtain ⟨hh0, hh1⟩ := hp_has (cnt := 1) hz z1 hW18 ux2 x1 (by omega)
  have hz1 : RHz T H (uF z AA x u) (xs_I w 26 (nI (W.length + 1))) := (RHp_iff.mp (RHp_fv hH (yf_I (I := [26]) (J := []) (A := []) (B := []) yf_refl (by decide)) (by decide))).1
  obtain ⟨mm0, mm1⟩ := mp_70 (fu := fu) (cnt := 1) (ix := ix) (b3 := 0) (n := W.length) (m := m) hz1 rfl (by omega) x1 (by omega) h915 m4 m1
  have l1 : (1 : Int64) = lN 1 := rfl
  rw [l1]
  by_cases c0 : (uF z AA x u).2.2.2 10 W.length = 0
  · rw [hh0 c0, ys_seq, if_pos rfl, mm0 (hK.mp c0)]
    exact ⟨_, _, rfl, rfl, yf_I yf_refl (by decide), yf_I (yf_I (yf_I yf_refl (by decide)) (by decide)) (by decide), Or.inr ⟨8, by decide, by decide, rfl, rfl⟩⟩
  · obtain ⟨k, e, he, r1, r2, r3⟩ := rv_obj c2 c0
    obtain ⟨i1, i2, i3, i4⟩ := rh_obj hz he
    obtain ⟨⟨b1, b2, b3⟩, -⟩ := hz.2.1 k e he
    have htop := hS_top he
    have h2000 := hz.1.2.2.1
    rw [hh1 k e he r1, mm1 k e he r2]
    by_cases cx : ix + 1 ≤ e.2.2.2
    · rw [if_pos cx, if_pos cx, ys_seq, if_neg (show ¬ (1 : Int32) = 0 by decide)]
      have hdp : pT c ix = some d := by unfold pT; rw [if_pos h94]; exact hd
      have hrv := rh_get hst.2.2.1 hH he r3 hc (by omega) hdp
      have hcc : hS (H.take k) + 1 + ix < 2000 := by omega
      have ux3 : ((uF z AA x u).2.2.2 10 (W.length + 1)).toInt32 = nI ix := by rw [y1]; exact x3
      have w9 : (xs_I w 26 (nI (W.length + 1))).1 9 = nI o := h9
      have w7 : (xs_I w 26 (nI (W.length + 1))).2.2.1 7 (32 * m) = nI d := p7
      have w5 : ∀ j, (xs_I w 26 (nI (W.length + 1))).2.2.2 5 j = w.2.2.2 5 j := fun _ => rfl
      have hCe1 : fm_Types_member (nI m) 0 (xs_I (uF z AA x u) 28 (nI W.length)) = some (nI (yv_h d), xs_I (uF z AA x u) 28 (nI W.length)) := yCe_m (i := 0) (show yCe T (xs_I (uF z AA x u) 28 (nI W.length)) from hst.1) hc hd
      rw [nI_1, ix18 (by omega), ix18 hW18, show (nI W.length).toNatClampNeg = W.length from nI_clamp (by omega), show (nI (W.length + 1)).toNatClampNeg = W.length + 1 from nI_clamp (by omega), r1, i1, ux3, hp_cell hz he, ys_seq, hCe1, ys_seq, xs_id, w9, if_neg (show ¬ (14 : Int32) ≤ nI o from fun q => by have := (nI_leI (a := 14) (by omega) (by omega)).mp q; omega), nI_add, ix2001 (by omega), show (nI (hS (H.take k) + 1 + ix)).toNatClampNeg = hS (H.take k) + 1 + ix from nI_clamp (by omega), w7, w5]
      have eM : (if nI o = 12 then jb_Model_doArray_209 fu (lN 1) 0 (nI d) (nI (hS (H.take k) + 1 + ix)) 1 (w.2.2.2 5 (hS (H.take k) + 1 + ix)) (nI d) (xs_I (xs_I w 26 (nI (W.length + 1))) 26 (nI W.length)) else jb_Model_doArray_209 fu (lN 1) 0 (nI d) (nI (hS (H.take k) + 1 + ix)) 0 (w.2.2.2 5 (hS (H.take k) + 1 + ix)) (nI d) (xs_I (xs_I w 26 (nI (W.length + 1))) 26 (nI W.length))) = fm_Model_layPart (nI d) (w.2.2.2 5 (hS (H.take k) + 1 + ix)) sg (xs_I (xs_I w 26 (nI (W.length + 1))) 26 (nI W.length)) := by
        have : (if nI o = 12 then jb_Model_doArray_209 fu (lN 1) 0 (nI d) (nI (hS (H.take k) + 1 + ix)) 1 (w.2.2.2 5 (hS (H.take k) + 1 + ix)) (nI d) (xs_I (xs_I w 26 (nI (W.length + 1))) 26 (nI W.length)) else jb_Model_doArray_209 fu (lN 1) 0 (nI d) (nI (hS (H.take k) + 1 + ix)) 0 (w.2.2.2 5 (hS (H.take k) + 1 + ix)) (nI d) (xs_I (xs_I w 26 (nI (W.length + 1))) 26 (nI W.length))) = jb_Model_doArray_209 fu (lN 1) 0 (nI d) (nI (hS (H.take k) + 1 + ix)) sg (w.2.2.2 5 (hS (H.take k) + 1 + ix)) (nI d) (xs_I (xs_I w 26 (nI (W.length + 1))) 26 (nI W.length)) := by
          rw [hsg1]
          by_cases q : o = 12
          · rw [if_pos (show nI o = 12 by rw [q]; rfl), if_pos q]
          · rw [if_neg (show ¬ nI o = (12 : Int32) from fun t => q ((nI_eq (b := 12) (by omega) (by decide)).mp t)), if_neg q]
        rw [this]
        unfold jb_Model_doArray_209
        rw [mp_layPart (n := W.length) hd150 rfl (by omega), ys_seq]
        unfold jb_Model_doArray_212
        obtain ⟨fn, rfl⟩ : ∃ fn, fu = fn + 1 := ⟨fu - 1, by omega⟩
        unfold jb_Model_doArray_215
        simp only [xs_let]
        rw [if_neg (show ¬ lN 1 ≤ (0 : Int32).toInt64 by decide)]
        have w9' : ∀ a b, (vP (xs_I (xs_I w 26 (nI (W.length + 1))) 26 (nI W.length)) W.length a b).1 9 = nI o := fun _ _ => h9
        rw [w9', if_pos (show nI o ≤ (13 : Int32) from nI_le (b := 13) (by omega) (by omega))]
      rw [eM]
      have c1' : RS T H W (xs_I (uF z AA x u) 28 (nI W.length)) (xs_I (xs_I w 26 (nI (W.length + 1))) 26 (nI W.length)) := ⟨rfl, rfl, c1.2.2.1, c1.2.2.2⟩
      obtain ⟨u', v', g1, g2, g3, g4, g5⟩ := RO_part (cc := hS (H.take k) + 1 + ix) (s := sg) c1' (by omega) hd150 z1 z2 hcc hsg2 hrv
      exact ⟨u', v', g1, g2, yf_trans (yf_I yf_refl (by decide)) g3, yf_trans (yf_I (yf_I yf_refl (by decide)) (by decide)) g4, g5⟩
    · rw [if_neg cx, if_neg cx, ys_seq, if_pos rfl]
      exact ⟨_, _, rfl, rfl, yf_I yf_refl (by decide), yf_I (yf_I (yf_I yf_refl (by decide)) (by decide)) (by decide), Or.inr ⟨10, by decide, by decide, rfl, rfl⟩⟩
end
