section
variable {α β γ δ σ τ : Type} {B : Nat → Int32} {u v w u' v' u0 v0 : xk_St} {T : List (Nat × List Nat × List Nat)} {F : List Nat} {G : List (Nat × Nat × Nat × Int64)} {L W0 : List Nat} {n fu tc mc lim p q len f D k tn tn' j d b g m : Nat} {z : Nat → Nat} {LL : Nat → List Nat} {AA : Nat → sBo} {tt : Nat → Nat} {H H' : rH} {fs r rr : List rFr} {x x' : rFr} {c : Nat × List Nat × List Nat} {y : Nat × sIn} {Q Qn Q1 : List sFr} {P : List rFr → Nat → Prop} {R : List Nat}
/-- the results of a block lie there and nothing else of it -/
theorem RS_over {f0 : sFr} {q : List sFr} (h : RS T H (W0 ++ sq_f (f0 :: q)) u v) (ht : sq_over T (f0 :: q) = some Q1) (hd : f0.2.2.2.1 = false) (hl : ∀ w, w ∈ sb_res T f0.2.2.1 → w < 150) : RS T H (W0 ++ (sq_f q ++ sb_res T f0.2.2.1)) u v := by
  obtain ⟨Q2, h1, h2⟩ := Option.bind_eq_some_iff.mp (show (sq_takes (yl_f T) (sb_res T f0.2.2.1).reverse (f0 :: q)).bind (fun Q' => xs_if (sq_h Q' = sq_h Q'.tail) (some Q')) = some Q1 from ht)
  obtain ⟨h3, -⟩ := xp_if h2
  obtain ⟨ds, s, a1, a2, a3, a4⟩ := sq_takesW h1 hd
  rw [a4] at h3
  have hs : s = [] := sq_tops (f := sf_s f0 s) (r := q) h3
  have hlen : ds.length = (sb_res T f0.2.2.1).length := by rw [a2, List.length_reverse]
  have e : W0 ++ sq_f (f0 :: q) = (W0 ++ sq_f q) ++ ds.reverse := by
    show W0 ++ (sq_f q ++ f0.2.2.2.2.reverse) = _
    rw [a1, hs, List.append_nil, List.append_assoc]
  rw [e] at h
  have hg : RS T H ((W0 ++ sq_f q) ++ sb_res T f0.2.2.1) u v := by
    refine RS_re h (by rw [List.length_append, List.length_append (as := W0 ++ sq_f q), List.length_reverse, hlen]) fun i c c' hc hc' => ?_
    by_cases zi : i < (W0 ++ sq_f q).length
    · rw [List.getElem?_append_left zi] at hc hc'
      rw [hc] at hc'; cases hc'
      exact Or.inl rfl
    · rw [List.getElem?_append_right (by omega)] at hc hc'
      have hlt := yl_lt hc'
      rw [List.getElem?_reverse (by omega)] at hc
      have hc2 : (sb_res T f0.2.2.1).reverse[ds.length - 1 - (i - (W0 ++ sq_f q).length)]? = some c' := by
        rw [List.getElem?_reverse (by omega), ← hc']
        congr 1; omega
      exact Or.inr ⟨a3 _ c c' hc hc2, hl c' (List.mem_of_getElem? hc')⟩
  rw [← List.append_assoc]; exact hg
/-- results of the outermost block -/
theorem rx_outlab (h : RX D B len T F tc mc G z LL AA tt H (x :: r) tn u v) {ft : sFr} (hft : x.2.2[x.2.2.length - 1]? = some ft) : ∃ c, T[tt x.1]? = some c ∧ c.1 = 96 ∧ sb_lab T ft = c.2.2 ∧ sb_res T ft.2.2.1 = c.2.2 ∧ ft.2.1 = 0 := by
  obtain ⟨fo, b1, b2, b3, b4⟩ := rx_outer h
  rw [hft] at b1; cases b1
  obtain ⟨cc, hco, -⟩ := rx_body h
  have hc := hco.2.1
  have ht64 : tt x.1 < 64 := by have := yl_lt hc; have := h.1.1.1.2.1; omega
  have hres : sb_res T ft.2.2.1 = cc.2.2 := by
    rw [b3]
    show (match T[sb_n (lN (tt x.1))]? with
      | none => []
      | some c => c.2.2) = cc.2.2
    rw [sb_nL (by omega), hc]
  refine ⟨cc, hc, hco.2.2.1, ?_, hres, b2⟩
  unfold sb_lab
  rw [if_neg (by omega)]
  exact hres
/-- 0x0f -/
theorem ri_15 (hfu : 18000 < fu) (h : rFt D B len T F tc mc G z LL AA tt H x r tn y Qn u v w) (hi : y.2.1 = 15) (hP : rPs P x r tn) (hR : ∀ c, r = [] → T[tt x.1]? = some c → R = c.2.2) : RZ D B len T F tc mc G z LL AA tt P R (fm_Machine_step fu (u.2.2.1 7 (kF z AA x)) (nI (kF z AA x)) (uF z AA x u)) (mr_st fu w) := by
  have h7 : u.2.2.1 7 (kF z AA x) = nI 15 := by rw [h.2.1.2.2.1.1, if_neg (by omega), hi]
  have h8 : w.1 8 = nI 15 := by rw [h.2.2.2.1.2.2.2.1, if_pos (by omega), hi]
  obtain ⟨f0, q, hQ, hd⟩ := rf_Q h
  obtain ⟨z1, z2, z3, z4, z5⟩ := rf_0 h
  have hs := h.2.1.2.1
  unfold sq_step at hs
  rw [if_neg (by omega), if_neg (by omega), if_neg (by omega), if_neg (by omega), if_neg (by omega), if_neg (by omega), if_neg (by omega), if_neg (by omega), if_neg (by omega), if_pos hi] at hs
  obtain ⟨ft, hft, hs⟩ := Option.bind_eq_some_iff.mp (show (x.2.2[x.2.2.length - 1]?.bind fun f => (sq_takes (yl_f T) (sb_lab T f).reverse x.2.2).bind fun Q1 => some (sq_lose Q1)) = some Qn from hs)
  obtain ⟨Q1, ht, -⟩ := Option.bind_eq_some_iff.mp hs
  obtain ⟨cc, hc, h96, hlab, -, -⟩ := rx_outlab h.1 hft
  have e0 : mr_st fu w = fm_Model_leave fu w := by
    unfold mr_st fm_Model_doWays
    simp only [xs_let]
    rw [h8]
    exact xs_id
  have e1 : fm_Machine_step fu (nI 15) (nI (kF z AA x)) (uF z AA x u) = fm_Machine_leave fu (uF z AA x u) := by
    have : fm_Machine_step fu (nI 15) (nI (kF z AA x)) (uF z AA x u) = xs_seq (xs_seq (fm_Machine_leave fu (uF z AA x u)) fun _ u6 => some ((), u6)) fun _ u9 => some ((), u9) := rfl
    rw [this, xs_id, xs_id]
  have hl := (rx_lab h.1 hft).1
  rw [hQ] at ht
  obtain ⟨Y, hY⟩ := RS_lab (d := q.length) (rf_RS' h hQ) ht hd hl
  rw [h7, e0, e1]
  refine rz_leave (Y := LL x.1 ++ Y) hfu h.1 z4 z5 z1 z2 z3 hc h96 ?_ hP.1 (fun e => hR cc e hc)
  rw [hlab] at hY
  have e2 : (f0 :: q).drop (q.length + 1) = [] := List.drop_of_length_le (by rw [List.length_cons]; exact Nat.le_refl _)
  rw [e2] at hY
  have : fW LL r ++ ((LL x.1 ++ Y) ++ cc.2.2) = (fW LL r ++ LL x.1) ++ (sq_f [] ++ (Y ++ cc.2.2)) := by
    rw [show sq_f ([] : List sFr) = [] from rfl, List.nil_append]
    simp only [List.append_assoc]
  rw [this]; exact hY
/-- 0x0b -/
theorem ri_11 (hfu : 18000 < fu) (h : rFt D B len T F tc mc G z LL AA tt H x r tn y Qn u v w) (hi : y.2.1 = 11) (hP : rPs P x r tn) (hR : ∀ c, r = [] → T[tt x.1]? = some c → R = c.2.2) : RZ D B len T F tc mc G z LL AA tt P R (fm_Machine_step fu (u.2.2.1 7 (kF z AA x)) (nI (kF z AA x)) (uF z AA x u)) (mr_st fu w) := by
  have h7 := h.2.1.2.2.1.1
  rw [if_pos hi] at h7
  have h8 : w.1 8 = nI 11 := by rw [h.2.2.2.1.2.2.2.1, if_pos (by omega), hi]
  obtain ⟨f0, q, hQ, hd⟩ := rf_Q h
  obtain ⟨z1, z2, z3, z4, z5⟩ := rf_0 h
  have h0 := h.1
  obtain ⟨h1, h2, h3, h4, h5, h6, hh7, hh8, h9⟩ := h0
  have hl : (x :: r).length = r.length + 1 := List.length_cons
  have h60 := h6.2.2.1
  have hF1 := RF_fv z5 (by decide) h3
  obtain ⟨a1, a2, a3, a4, a5, a6, a7⟩ := hF1.1
  have hQ100 : x.2.2.length ≤ 100 := a6.2.2.2.2.1
  have hV := fV_le hF1.2
  have hs := h.2.1.2.1
  unfold sq_step at hs
  rw [if_neg (by omega), if_neg (by omega), if_neg (by omega), if_neg (by omega), if_neg (by omega), if_pos hi, hQ] at hs
  obtain ⟨Q1, ho, -⟩ := Option.bind_eq_some_iff.mp (show (sq_over T (f0 :: q)).bind _ = some Qn from hs)
  obtain ⟨e1, e2⟩ := sq_endS hs
  have hf0 : x.2.2[0]? = some f0 := by rw [hQ]; rfl
  have hov := RS_over (rf_RS' h hQ) ho hd (rx_lab h.1 hf0).2
  have w28 : w.1 28 = nI (fV r + x.2.2.length) := by rw [h.2.2.1.1 28 (by decide)]; exact h6.2.2.2
  have w27 : w.1 27 = nI (r.length + 1) := by rw [h.2.2.1.1 27 (by decide), h6.2.1, hl]
  have hlx : x.2.2.length = q.length + 1 := by rw [hQ, List.length_cons]
  have ew : nI (fV r + x.2.2.length) - 1 = nI (fV r + q.length) := by
    rw [hlx, show fV r + (q.length + 1) = (fV r + q.length) + 1 by omega, nI_pred]
  have ceq : nI (fV r + q.length) = nI (fV r) ↔ q = [] := (nI_eq (by omega) (by omega)).trans ⟨fun t => List.length_eq_zero_iff.mp (by omega), fun t => by rw [t]; rfl⟩
  have e0 : mr_st fu w = if q = [] then fm_Model_leave fu w else some ((), xs_I w 28 (nI (fV r + q.length))) := by
    unfold mr_st fm_Model_doWays
    simp only [xs_let]
    rw [h8]
    show (if (w.1 27) - 1 < 0 ∨ 61 ≤ ((w.1 27) - 1).toNatClampNeg then none else if (w.1 28) - 1 = w.2.2.1 32 ((w.1 27) - 1).toNatClampNeg then (xs_seq (fm_Model_leave fu w) fun _ u7 => some ((), u7)) else some ((), xs_I w 28 ((w.1 28) - 1))) = _
    rw [w27, nI_pred, if_neg (nI_in (N := 61) (by omega) (by decide)), show (nI r.length).toNatClampNeg = r.length from nI_clamp (by omega), w28, ew, a4, xs_id]
    by_cases zq : q = []
    · rw [if_pos (ceq.mpr zq), if_pos zq]
    · rw [if_neg (fun t => zq (ceq.mp t)), if_neg zq]
  by_cases zq : q = []
  · have ht : x.2.2.tail = [] := by rw [hQ]; exact zq
    rw [if_pos ht] at h7
    have e3 : fm_Machine_step fu (nI 7) (nI (kF z AA x)) (uF z AA x u) = fm_Machine_leave fu (uF z AA x u) := by
      have : fm_Machine_step fu (nI 7) (nI (kF z AA x)) (uF z AA x u) = xs_seq (xs_seq (fm_Machine_leave fu (uF z AA x u)) fun _ u6 => some ((), u6)) fun _ u9 => some ((), u9) := rfl
      rw [this, xs_id, xs_id]
    have hft : x.2.2[x.2.2.length - 1]? = some f0 := by rw [hQ, zq]; rfl
    obtain ⟨cc, hc, h96, -, hres, -⟩ := rx_outlab h.1 hft
    rw [h7, e0, e3, if_pos zq]
    refine rz_leave (Y := LL x.1) hfu h.1 z4 z5 z1 z2 z3 hc h96 ?_ hP.1 (fun e => hR cc e hc)
    rw [hres, zq, show sq_f ([] : List sFr) = [] from rfl, List.nil_append, List.append_assoc] at hov
    exact hov
  · have ht : ¬ x.2.2.tail = [] := by rw [hQ]; exact zq
    rw [if_neg ht] at h7
    have e3 : fm_Machine_step fu (nI 11) (nI (kF z AA x)) (uF z AA x u) = some ((), uF z AA x u) := rfl
    rw [h7, e0, e3, if_neg zq]
    have hpu : sq_pushes (sb_res T f0.2.2.1) (x.2.2.drop (0 + 1)) = some Qn := by
      rw [hQ]
      rcases e2 with ⟨t, -⟩ | ⟨-, t, -⟩
      · exact absurd t zq
      · exact t
    have hU2 : yf_fr [23, 26, 27, 28] [] [37] [10] u (uF z AA x u) := yf_mono z4 (by decide)
    have hV2 : yf_fr [4, 6, 8, 9, 10, 11, 23, 26, 28, 29] [0, 1, 2] [29] [3] v (xs_I w 28 (nI (fV r + q.length))) := yf_I (yf_mono z5 (by decide)) (by decide)
    refine ⟨_, _, rfl, rfl, Or.inl ⟨H, _, tn, rx_goend (d := 0) (je := x.2.1) h.1 hf0 hU2 hV2 (yl_lt h.2.1.1) h.2.1.2.2.2.1 (by rw [hQ]; exact zq) hpu ?_ ?_ ⟨hh7.1, ?_⟩ ⟨z1, z2, z3⟩ ⟨rfl, h.2.2.2.2.1⟩, hP.2.1 _ _ (Nat.lt_succ_self _)⟩⟩
    · rw [hQ]
      show RS T H (fW LL r ++ (LL x.1 ++ (sq_f q ++ sb_res T f0.2.2.1))) (uF z AA x u) (xs_I w 28 (nI (fV r + q.length)))
      rw [← List.append_assoc]
      exact RS_fv hov (yf_I (I := [28]) (J := []) (A := []) (B := []) yf_refl (by decide)) (by decide)
    · show nI (fV r + q.length) = nI (fV r + (x.2.2.length - 1 - 0))
      rw [hlx]; congr 2
    · show w.2.1 2 = lN tn
      rw [h.2.2.1.2.1 2 (by decide)]; exact hh7.2.1
end
