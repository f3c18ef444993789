section
variable {α β γ δ σ τ : Type} {B : Nat → Int32} {u v w u' v' u0 v0 : xk_St} {T : List (Nat × List Nat × List Nat)} {F : List Nat} {G : List (Nat × Nat × Nat × Int64)} {L W0 : List Nat} {n fu tc mc lim p q len f D k tn tn' j d b g m i sz ix id : Nat} {z : Nat → Nat} {LL : Nat → List Nat} {AA : Nat → sBo} {tt : Nat → Nat} {H H' : rH} {fs r rr : List rFr} {x x' : rFr} {c : Nat × List Nat × List Nat} {e : Nat × Nat × Nat × Nat} {y : Nat × sIn} {Q Qn Q1 : List sFr} {P : List rFr → Nat → Prop} {R : List Nat}
/-- 0xfb 1 -/
theorem ri_sdef (hfu : 18000 < fu) (h : rFt D B len T F tc mc G z LL AA tt H x r tn y Qn u v w) (hi : y.2.1 = 257) (hP : rPs P x r tn) : RZ D B len T F tc mc G z LL AA tt P R (fm_Machine_step fu (u.2.2.1 7 (kF z AA x)) (nI (kF z AA x)) (uF z AA x u)) (mr_st fu w) := by
  obtain ⟨g0, hk, h7, h9, er, hs⟩ := rf_obj (fu := fu) h (by omega)
  obtain ⟨z1, z2, z3, z4, z5⟩ := rf_0 h
  have hx : xt_S y.2.1 = 117 := by
    rcases rf_code h (by omega) (by omega) with ⟨a, q⟩ | ⟨a, q⟩ | q
    · exact a
    · omega
    · omega
  rw [if_pos (by omega)] at hs
  obtain ⟨c, hc, hs⟩ := Option.bind_eq_some_iff.mp hs
  obtain ⟨h95, hs⟩ := xp_if hs
  obtain ⟨m, m1, m2, m3, m4⟩ := rf_117 h hx hc
  rw [m2] at hc hs
  have ho : y.2.1 - 256 = 1 := by omega
  rw [ho] at hs h9
  unfold sq_strc at hs
  rw [if_neg (by decide), if_pos rfl] at hs
  obtain ⟨hdf, hs⟩ := xp_if hs
  have hs : sq_sg T [] [20 + 2 * m] x.2.2 = some Qn := by
    show (sq_push (20 + 2 * m) x.2.2).bind (sq_pushes []) = some Qn
    rw [hs]; rfl
  have hst := rf_st h
  obtain ⟨gG, g14, g18⟩ := rf_G h
  have hT64 : T.length ≤ 64 := h.1.1.2.2.1.2.1.1
  have hml := yl_lt hc
  have hsz16 : c.2.1.length ≤ 16 := (hst.1.2.1.2 m c hc).1
  have a3 : (uF z AA x u).2.2.1 3 m = nI c.2.1.length := by
    have := (hst.1.1.2.2 m c hc).1.2.1
    rw [yn_cs (by omega)] at this; exact this
  have a5 : (uF z AA x u).2.2.1 5 m = nI (yl_f T m) := hst.1.2.2 m hml
  have v5 : w.2.2.1 5 m = nI c.2.1.length := (hst.2.2.1.2.2.1 m c hml hc).1.2.1
  rw [h7, hs_obj (by omega) g0 hk, if_neg (by omega), if_neg (by omega), ho, m3, er]
  refine ri_sgP h hP hs (fun w hw => by cases hw) fun X hX hRS hRD => ?_
  rw [List.reverse_nil, List.append_nil] at hRS
  generalize hW : (fW LL r ++ LL x.1) ++ X = W at *
  have hWl : W.length < 18000 := by rw [List.length_append, List.length_singleton] at hX; omega
  have lsz : (nI c.2.1.length).toInt64 = lN c.2.1.length := nI_toL (by omega)
  have e1 : ∀ a, fm_Machine_doStructure fu (nI 1) (nI m) a (uF z AA x u) = xs_seq (fm_Heap_make fu (nI (yl_f T m)) (lN c.2.1.length) (uF z AA x u)) fun a1 u2 => if a1 = (0 : Int32) then some ((), xs_I u2 27 11) else jb_Machine_makeStructure_107 fu a1 u2 := by
    intro a
    unfold fm_Machine_doStructure jb_Machine_doStructure_25 fm_Machine_makeStructure
    rw [if_neg (by decide), if_neg (nI_in (N := 65) (by omega) (by decide)), if_neg (by decide), show (nI m).toNatClampNeg = m from nI_clamp (by omega), a3, a5, lsz, xs_id, if_neg (nI_inc (by omega) (by decide))]
    congr 1
  have e2 : fm_Model_doObjects fu w = xs_seq (fm_Model_made fu (nI m) (lN c.2.1.length) w) fun a3 u4 => if (u4.1 29) = (0 : Int32) then (if (u4.1 9) = (0 : Int32) then (if (((a3 / (2 : Int64)).toInt32) - (1 : Int32)) < 0 ∨ 2001 ≤ (((a3 / (2 : Int64)).toInt32) - (1 : Int32)).toNatClampNeg then none else jb_Model_newStructure_64 fu fu (nI m) (nI c.2.1.length) a3 (u4.2.2.1 37 (((a3 / (2 : Int64)).toInt32) - (1 : Int32)).toNatClampNeg) (0 : Int32) (xs_I u4 26 ((u4.1 26) - nI c.2.1.length))) else (jb_Model_newStructure_113 fu a3 u4)) else (some ((()), u4)) := by
    unfold fm_Model_doObjects
    rw [h9, if_neg (by decide), xs_id]
    unfold fm_Model_newStructure
    simp only [xs_let]
    rw [m4, if_neg (nI_in (N := 64) (by omega) (by decide)), show (nI m).toNatClampNeg = m from nI_clamp (by omega), v5, lsz]
    congr 1
  rw [e1, e2]
  obtain ⟨u1, v1, H1, f1, f2, s1, s2, s3⟩ := hm_make (sz := c.2.1.length) hfu hst.2.2.1 hRS hRD gG g14 g18 z2 hc (Or.inr ⟨h95, rfl⟩) (by omega)
  rcases s3 with ⟨t1, t2, t3, t4⟩ | ⟨id, ix, t1, t2, t3, t4, t5, t6, t7⟩
  · rw [t1, t2, ys_seq, ys_seq, if_pos rfl, if_neg (by rw [t3]; decide)]
    exact RP_11 hRD f1 f2 t3 t4 s2
  · obtain ⟨nc1, nc2, nc3, nc4, nc5, nc6⟩ := nw_cell t5
    have v9 : v1.1 9 = nI 1 := by rw [f2.1 9 (by decide)]; exact h9
    rw [t1, t2, ys_seq, ys_seq, if_neg (fun q => by have := (nI_eq (b := 0) (by omega) (by decide)).mp q; omega), if_pos t3, if_neg (by rw [v9]; decide)]
    unfold jb_Machine_makeStructure_107 jb_Model_newStructure_113
    rw [xs_id, xs_id]
    have hTM1 : yTM T v1 := yTM_fr hst.2.2.1 f2 (by decide)
    have hH1 := nw_zero hTM1 t5 t6 t7 hc (fun i d hd hi => hdf i d (by unfold pT at hd; rw [if_neg (by omega)] at hd; exact hd))
    exact RP_new (x := (id, ix, m, c.2.1.length)) (u1 := u1) (v1 := v1) (show 20 + 2 * m < 150 by omega) hRD (yf_mono f1 (by decide)) (yf_mono f2 (by decide)) (by rw [f1.1 27 (by decide)]; exact z1) t3 hWl nc4 hH1 (RG_app s2) (RS_app s1)
end
