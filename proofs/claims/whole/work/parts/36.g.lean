section
variable {α β γ δ σ τ : Type} {B : Nat → Int32} {u v w u' v' u0 v0 : xk_St} {T : List (Nat × List Nat × List Nat)} {F : List Nat} {G : List (Nat × Nat × Nat × Int64)} {L W0 : List Nat} {n fu tc mc lim p q len f D k tn tn' j d b g m : Nat} {z : Nat → Nat} {LL : Nat → List Nat} {AA : Nat → sBo} {tt : Nat → Nat} {H H' : rH} {fs r rr : List rFr} {x x' : rFr} {c : Nat × List Nat × List Nat} {y : Nat × sIn} {Q Qn Q1 : List sFr} {P : List rFr → Nat → Prop} {R : List Nat}
theorem RS_unpop {W : List Nat} {d : Nat} (h : RS T H W (xs_I u 28 (nI W.length)) (xs_I v 26 (nI W.length))) (h28 : u.1 28 = nI (W.length + 1)) (h26 : v.1 26 = nI (W.length + 1)) (hl : W.length < 18000) (hr : rv T H d (u.2.2.2 10 W.length) (u.2.2.1 37 W.length) (v.2.2.2 3 W.length)) (h29 : v.2.2.1 29 W.length = if 16 ≤ d then 1 else 0) : RS T H (W ++ [d]) u v := by
  have hlen : (W ++ [d]).length = W.length + 1 := by rw [List.length_append, List.length_singleton]
  refine ⟨by rw [hlen, h28], by rw [hlen, h26], by omega, fun i c hc => ?_⟩
  by_cases zi : i = W.length
  · subst zi
    rw [List.getElem?_append_right (Nat.le_refl _), Nat.sub_self] at hc
    cases hc
    exact ⟨hr, h29⟩
  · have hil : i < W.length := by have := yl_lt hc; omega
    rw [List.getElem?_append_left hil] at hc
    exact h.2.2.2 i c hc
/-- 0xd5 -/
theorem ri_213 (hfu : 18000 < fu) (h : rFt D B len T F tc mc G z LL AA tt H x r tn y Qn u v w) (hi : y.2.1 = 213) (hP : rPs P x r tn) (hR : ∀ c, r = [] → T[tt x.1]? = some c → R = c.2.2) : RZ D B len T F tc mc G z LL AA tt P R (fm_Machine_step fu (u.2.2.1 7 (kF z AA x)) (nI (kF z AA x)) (uF z AA x u)) (mr_st fu w) := by
  have h7 : u.2.2.1 7 (kF z AA x) = nI 213 := by rw [h.2.1.2.2.1.1, if_neg (by omega), hi]
  have h8 : w.1 8 = nI 213 := by rw [h.2.2.2.1.2.2.2.1, if_pos (by omega), hi]
  have hk : kF z AA x < 8192 := h.2.1.2.2.2.2.2.2.2.1
  obtain ⟨m, m1, m2, -⟩ := h.2.1.2.2.2.2.2.2.1.2.2.2.2.2.2.1 (by rw [hi]; decide +kernel)
  obtain ⟨f0, q, hQ, hd⟩ := rf_Q h
  obtain ⟨z1, z2, z3, z4, z5⟩ := rf_0 h
  have hs := h.2.1.2.1
  unfold sq_step at hs
  rw [hi, if_neg (by decide), if_neg (by decide), if_neg (by decide), if_neg (by decide), if_neg (by decide), if_neg (by decide), if_neg (by decide), if_neg (by decide), if_neg (by decide), if_neg (by decide), if_neg (by decide), if_neg (by decide), if_neg (by decide), if_neg (by decide), if_neg (by decide), if_neg (by decide), if_neg (by decide), if_neg (by decide), if_neg (by decide), if_neg (by decide), if_neg (by decide), if_neg (by decide), if_neg (by decide), if_pos rfl, m2, yx_lN (by omega), hQ] at hs
  obtain ⟨yy, k1, hs⟩ := Option.bind_eq_some_iff.mp (show (sq_popR (f0 :: q)).bind (fun x => x.2[m]?.bind fun f => (sq_sg T (sb_lab T f).reverse (sb_lab T f) x.2).bind fun Q2 => sq_push (sq_nn x.1) Q2) = some Qn from hs)
  have hRS := rf_RS' h hQ
  obtain ⟨s, b1, b2, b3, b4, b5⟩ := rf_popR hRS hd k1
  rw [b1] at hs
  obtain ⟨ft, hft, hs⟩ := Option.bind_eq_some_iff.mp hs
  obtain ⟨Q2, hsg, hpn⟩ := Option.bind_eq_some_iff.mp hs
  obtain ⟨Q3, hta, -⟩ := Option.bind_eq_some_iff.mp (show (sq_takes (yl_f T) (sb_lab T ft).reverse (sf_s f0 s :: q)).bind (sq_pushes (sb_lab T ft)) = some Q2 from hsg)
  have hnn : sq_nn yy.1 = yy.1 - yy.1 % 2 := if_neg (by omega)
  rw [hnn] at hpn
  rw [b5] at hRS
  have hl : (((fW LL r ++ LL x.1) ++ sq_f (sf_s f0 s :: q)) ++ [yy.1]).length = ((fW LL r ++ LL x.1) ++ sq_f (sf_s f0 s :: q)).length + 1 := by rw [List.length_append, List.length_singleton]
  have hW18 : ((fW LL r ++ LL x.1) ++ sq_f (sf_s f0 s :: q)).length < 18000 := by have := hRS.2.2.1; omega
  obtain ⟨c1, c2, c3⟩ := RS_pop hRS
  have hK := rK_0 (rf_RH h) (rv_K c2 b3)
  have hd0 : (sf_s f0 s).2.2.2.1 = false := hd
  obtain ⟨fx0, e91, e92⟩ := h.2.1.2.2.1.2.2.2.2.2.1 (Or.inr (Or.inr (Or.inl hi)))
  rw [m2, yx_lN (by omega)] at e91
  have hQ100 : x.2.2.length ≤ 100 := h.1.2.2.1.1.2.2.2.2.2.1.2.2.2.2.1
  have hml := yl_lt e91
  have e1 : fm_Machine_step fu (nI 213) (nI (kF z AA x)) (uF z AA x u) = if (uF z AA x u).2.2.2 10 ((fW LL r ++ LL x.1) ++ sq_f (sf_s f0 s :: q)).length = 0 then fm_Machine_branch fu (nI fx0.1.1) (xs_I (uF z AA x u) 28 (nI ((fW LL r ++ LL x.1) ++ sq_f (sf_s f0 s :: q)).length)) else some ((), uF z AA x u) := by
    rw [hs_ref (by omega) (by omega)]
    have : fm_Machine_doReference fu (nI 213) (nI (kF z AA x)) (uF z AA x u) = (if (((uF z AA x u).1 28) - (1 : Int32)) < 0 ∨ 18000 ≤ (((uF z AA x u).1 28) - (1 : Int32)).toNatClampNeg then none else if ((uF z AA x u).2.2.2 10 (((uF z AA x u).1 28) - (1 : Int32)).toNatClampNeg) = (0 : Int64) then ((xs_seq (fm_Values_pop__h61 (uF z AA x u)) fun a14 u15 => if nI (kF z AA x) < 0 ∨ 8192 ≤ (nI (kF z AA x)).toNatClampNeg then none else xs_seq (fm_Machine_branch fu (u15.2.2.1 9 (nI (kF z AA x)).toNatClampNeg) u15) fun _ u16 => some ((()), u16))) else (some ((()), uF z AA x u))) := rfl
    rw [this, hp_pop (by rw [hRS.1, hl]) hW18, ys_seq, hRS.1, hl, nI_pred, ix18 hW18, ix8192 hk, show (nI ((fW LL r ++ LL x.1) ++ sq_f (sf_s f0 s :: q)).length).toNatClampNeg = ((fW LL r ++ LL x.1) ++ sq_f (sf_s f0 s :: q)).length from nI_clamp (by omega), show (nI (kF z AA x)).toNatClampNeg = kF z AA x from nI_clamp (by omega), xs_id]
    have : ∀ k, (xs_I (uF z AA x u) 28 k).2.2.1 9 (kF z AA x) = nI fx0.1.1 := fun k => e92
    rw [this]
  have e2 : mr_st fu w = if w.2.2.2 3 ((fW LL r ++ LL x.1) ++ sq_f (sf_s f0 s :: q)).length = 0 then fm_Model_goOut fu (nI m) (xs_I w 26 (nI ((fW LL r ++ LL x.1) ++ sq_f (sf_s f0 s :: q)).length)) else some ((), w) := by
    rw [mr_ref h8 (by omega) (by omega)]
    unfold fm_Model_doReferences
    simp only [xs_let]
    rw [h8, if_neg (by decide), hRS.2.1, hl, nI_pred, ix19 (by omega), if_neg (by decide), if_neg (by decide), if_neg (by decide), if_neg (by decide), if_pos (by decide), show (nI ((fW LL r ++ LL x.1) ++ sq_f (sf_s f0 s :: q)).length).toNatClampNeg = ((fW LL r ++ LL x.1) ++ sq_f (sf_s f0 s :: q)).length from nI_clamp (by omega), xs_id]
    have : ∀ k, ((xs_I w 26 k).2.1 0).toInt32 = nI m := fun k => by
      show (w.2.1 0).toInt32 = nI m
      rw [h.2.2.2.1.1, m2]
      exact sb_nLi (by omega)
    rw [this]
  rw [h7, e1, e2]
  by_cases q0 : (uF z AA x u).2.2.2 10 ((fW LL r ++ LL x.1) ++ sq_f (sf_s f0 s :: q)).length = 0
  · rw [if_pos q0, if_pos (hK.mp q0)]
    obtain ⟨⟨fx, r1, r2, -⟩, r3⟩ := rz_brq (R := R) (u1 := xs_I (uF z AA x u) 28 (nI ((fW LL r ++ LL x.1) ++ sq_f (sf_s f0 s :: q)).length)) (w1 := xs_I w 26 (nI ((fW LL r ++ LL x.1) ++ sq_f (sf_s f0 s :: q)).length)) hfu h.1 hQ hd hft hta (yf_I z4 (by decide)) (yf_I z5 (by decide)) z1 z2 z3 c1 hP hR
    rw [e91] at r1
    cases r1
    rw [r2]
    exact r3
  · rw [if_neg q0, if_neg (fun t => q0 (hK.mpr t))]
    have hfx : ∃ fx, x.2.2[m]? = some fx ∧ sb_lab T fx = sb_lab T ft := by
      refine ⟨fx0, e91, ?_⟩
      rw [hQ] at e91
      cases m with
      | zero => cases e91; cases hft; rfl
      | succ m =>
        have e91 : q[m]? = some fx0 := e91
        have hft : q[m]? = some ft := hft
        rw [e91] at hft; cases hft; rfl
    obtain ⟨fx, hfx1, hfx2⟩ := hfx
    obtain ⟨X, s', r1, r2, r3⟩ := RS_sg c1 hsg hd0 (fun w hw => (rx_lab h.1 hfx1).1 w (by rw [hfx2]; exact List.mem_reverse.mp hw))
    rw [List.reverse_reverse] at r1
    rw [r3] at hpn
    have hQn := sq_pushS hpn
    have hlq : (((fW LL r ++ LL x.1) ++ X) ++ sb_lab T ft).length = ((fW LL r ++ LL x.1) ++ sq_f (sf_s f0 s :: q)).length := by
      have e : nI ((fW LL r ++ LL x.1) ++ sq_f (sf_s f0 s :: q)).length = nI (((fW LL r ++ LL x.1) ++ X) ++ sb_lab T ft).length := r1.1
      have := r1.2.2.1
      exact ((nI_eq (by omega) (by omega)).mp e).symm
    refine rz_simple h.1 h.2.1 (by rw [hQ, hQn]; exact ⟨f0, _, q, rfl, rfl, ⟨rfl, rfl, rfl⟩, hd⟩) h.2.2.1 h.2.2.2.2.1 z3 (hP.2.1 _ _ (Nat.lt_succ_self _)) ⟨_, _, rfl, rfl, yf_refl, yf_refl, Or.inl ⟨z1, z2, ?_⟩⟩
    have e : fW LL ((x.1, x.2.1 + 1, Qn) :: r) = (((fW LL r ++ LL x.1) ++ X) ++ sb_lab T ft) ++ [yy.1 - yy.1 % 2] := by
      show fW LL r ++ (LL x.1 ++ sq_f Qn) = _
      rw [r3] at r2
      have r2 : sq_f q ++ s'.reverse = X ++ sb_lab T ft := r2
      rw [hQn]
      show fW LL r ++ (LL x.1 ++ (sq_f q ++ ((yy.1 - yy.1 % 2) :: s').reverse)) = _
      rw [List.reverse_cons, ← List.append_assoc (sq_f q), r2]
      simp only [List.append_assoc]
    rw [e]
    refine RS_unpop (by rw [hlq]; exact r1) (by rw [hlq, hRS.1, hl]) (by rw [hlq, hRS.2.1, hl]) (by omega) (by rw [hlq]; exact rv_nn c2 b3 (fun t => q0 (hK.mpr t))) (by rw [hlq, c3, if_pos b3, if_pos (by omega)])
/-- 0xd6 -/
theorem ri_214 (hfu : 18000 < fu) (h : rFt D B len T F tc mc G z LL AA tt H x r tn y Qn u v w) (hi : y.2.1 = 214) (hP : rPs P x r tn) (hR : ∀ c, r = [] → T[tt x.1]? = some c → R = c.2.2) : RZ D B len T F tc mc G z LL AA tt P R (fm_Machine_step fu (u.2.2.1 7 (kF z AA x)) (nI (kF z AA x)) (uF z AA x u)) (mr_st fu w) := by
  have h7 : u.2.2.1 7 (kF z AA x) = nI 214 := by rw [h.2.1.2.2.1.1, if_neg (by omega), hi]
  have h8 : w.1 8 = nI 214 := by rw [h.2.2.2.1.2.2.2.1, if_pos (by omega), hi]
  have hk : kF z AA x < 8192 := h.2.1.2.2.2.2.2.2.2.1
  obtain ⟨m, m1, m2, -⟩ := h.2.1.2.2.2.2.2.2.1.2.2.2.2.2.2.1 (by rw [hi]; decide +kernel)
  obtain ⟨f0, q, hQ, hd⟩ := rf_Q h
  obtain ⟨z1, z2, z3, z4, z5⟩ := rf_0 h
  have hs := h.2.1.2.1
  unfold sq_step at hs
  rw [hi, if_neg (by decide), if_neg (by decide), if_neg (by decide), if_neg (by decide), if_neg (by decide), if_neg (by decide), if_neg (by decide), if_neg (by decide), if_neg (by decide), if_neg (by decide), if_neg (by decide), if_neg (by decide), if_neg (by decide), if_neg (by decide), if_neg (by decide), if_neg (by decide), if_neg (by decide), if_neg (by decide), if_neg (by decide), if_neg (by decide), if_neg (by decide), if_neg (by decide), if_neg (by decide), if_neg (by decide), if_pos rfl, m2, yx_lN (by omega), hQ] at hs
  obtain ⟨yy, k1, hs⟩ := Option.bind_eq_some_iff.mp (show (sq_popR (f0 :: q)).bind (fun x => x.2[m]?.bind fun f => (sb_lab T f)[(sb_lab T f).length - 1]?.bind fun w => xs_if (yfit (yl_f T) (sq_nn x.1) w) (sq_sg T ((sb_lab T f).take ((sb_lab T f).length - 1)).reverse ((sb_lab T f).take ((sb_lab T f).length - 1)) x.2)) = some Qn from hs)
  have hRS := rf_RS' h hQ
  obtain ⟨s, b1, b2, b3, b4, b5⟩ := rf_popR hRS hd k1
  rw [b1] at hs
  obtain ⟨ft, hft, hs⟩ := Option.bind_eq_some_iff.mp hs
  obtain ⟨wl, hwl, hs⟩ := Option.bind_eq_some_iff.mp hs
  obtain ⟨hfit, hsg⟩ := xp_if hs
  obtain ⟨Q3, hta, -⟩ := Option.bind_eq_some_iff.mp (show (sq_takes (yl_f T) ((sb_lab T ft).take ((sb_lab T ft).length - 1)).reverse (sf_s f0 s :: q)).bind (sq_pushes ((sb_lab T ft).take ((sb_lab T ft).length - 1))) = some Qn from hsg)
  have hnn : sq_nn yy.1 = yy.1 - yy.1 % 2 := if_neg (by omega)
  rw [hnn] at hfit
  rw [b5] at hRS
  have hl : (((fW LL r ++ LL x.1) ++ sq_f (sf_s f0 s :: q)) ++ [yy.1]).length = ((fW LL r ++ LL x.1) ++ sq_f (sf_s f0 s :: q)).length + 1 := by rw [List.length_append, List.length_singleton]
  have hW18 : ((fW LL r ++ LL x.1) ++ sq_f (sf_s f0 s :: q)).length < 18000 := by have := hRS.2.2.1; omega
  obtain ⟨c1, c2, c3⟩ := RS_pop hRS
  have hK := rK_0 (rf_RH h) (rv_K c2 b3)
  have hd0 : (sf_s f0 s).2.2.2.1 = false := hd
  obtain ⟨fx0, e91, e92⟩ := h.2.1.2.2.1.2.2.2.2.2.1 (Or.inr (Or.inr (Or.inr hi)))
  rw [m2, yx_lN (by omega)] at e91
  have hQ100 : x.2.2.length ≤ 100 := h.1.2.2.1.1.2.2.2.2.2.1.2.2.2.2.1
  have hml := yl_lt e91
  have hlabe : sb_lab T ft = (sb_lab T ft).take ((sb_lab T ft).length - 1) ++ [wl] := by
    have hlt := yl_lt hwl
    have e := List.take_append_drop ((sb_lab T ft).length - 1) (sb_lab T ft)
    obtain ⟨hlt', ew⟩ := List.getElem?_eq_some_iff.mp hwl
    rw [List.drop_eq_getElem_cons hlt', ew, List.drop_of_length_le (by omega)] at e
    exact e.symm
  have e1 : fm_Machine_step fu (nI 214) (nI (kF z AA x)) (uF z AA x u) = if (uF z AA x u).2.2.2 10 ((fW LL r ++ LL x.1) ++ sq_f (sf_s f0 s :: q)).length = 0 then some ((), xs_I (uF z AA x u) 28 (nI ((fW LL r ++ LL x.1) ++ sq_f (sf_s f0 s :: q)).length)) else fm_Machine_branch fu (nI fx0.1.1) (uF z AA x u) := by
    rw [hs_ref (by omega) (by omega)]
    have e188 : fm_Machine_doReference fu (nI 214) (nI (kF z AA x)) (uF z AA x u) = jb_Machine_doReference_188 fu (nI (kF z AA x)) (uF z AA x u) := by
      unfold fm_Machine_doReference
      rw [if_neg (by decide), if_neg (by decide), if_neg (by decide), if_neg (by decide), if_neg (by decide), if_neg (by decide)]
    rw [e188]
    unfold jb_Machine_doReference_188
    rw [hp_pop (by rw [hRS.1, hl]) hW18, ys_seq, hRS.1, hl, nI_pred, ix18 hW18, ix8192 hk, show (nI ((fW LL r ++ LL x.1) ++ sq_f (sf_s f0 s :: q)).length).toNatClampNeg = ((fW LL r ++ LL x.1) ++ sq_f (sf_s f0 s :: q)).length from nI_clamp (by omega), show (nI (kF z AA x)).toNatClampNeg = kF z AA x from nI_clamp (by omega), xs_id]
    have : (uF z AA x u).2.2.1 9 (kF z AA x) = nI fx0.1.1 := e92
    rw [this]
  have e2 : mr_st fu w = if w.2.2.2 3 ((fW LL r ++ LL x.1) ++ sq_f (sf_s f0 s :: q)).length = 0 then some ((), xs_I w 26 (nI ((fW LL r ++ LL x.1) ++ sq_f (sf_s f0 s :: q)).length)) else fm_Model_goOut fu (nI m) w := by
    rw [mr_ref h8 (by omega) (by omega)]
    unfold fm_Model_doReferences
    simp only [xs_let]
    rw [h8, if_neg (by decide), hRS.2.1, hl, nI_pred, ix19 (by omega), if_neg (by decide), if_neg (by decide), if_neg (by decide), if_neg (by decide), if_neg (by decide), show (nI ((fW LL r ++ LL x.1) ++ sq_f (sf_s f0 s :: q)).length).toNatClampNeg = ((fW LL r ++ LL x.1) ++ sq_f (sf_s f0 s :: q)).length from nI_clamp (by omega)]
    unfold jb_Model_doReferences_182
    simp only [xs_let]
    have : (w.2.1 0).toInt32 = nI m := by
      rw [h.2.2.2.1.1, m2]
      exact sb_nLi (by omega)
    rw [this, hRS.2.1, hl, nI_pred, xs_id]
  rw [h7, e1, e2]
  have hfx : sb_lab T fx0 = sb_lab T ft := by
    rw [hQ] at e91
    cases m with
    | zero => cases e91; cases hft; rfl
    | succ m =>
      have e91 : q[m]? = some fx0 := e91
      have hft : q[m]? = some ft := hft
      rw [e91] at hft; cases hft; rfl
  have hlabs := (rx_lab h.1 e91).1
  rw [hfx] at hlabs
  by_cases q0 : (uF z AA x u).2.2.2 10 ((fW LL r ++ LL x.1) ++ sq_f (sf_s f0 s :: q)).length = 0
  · rw [if_pos q0, if_pos (hK.mp q0)]
    obtain ⟨X, s', r1, r2, r3⟩ := RS_sg c1 hsg hd0 (fun w hw => hlabs w (List.mem_of_mem_take (List.mem_reverse.mp hw)))
    rw [List.reverse_reverse] at r1
    refine rz_simple h.1 h.2.1 (by rw [hQ, r3]; exact ⟨f0, _, q, rfl, rfl, ⟨rfl, rfl, rfl⟩, hd⟩) h.2.2.1 h.2.2.2.2.1 z3 (hP.2.1 _ _ (Nat.lt_succ_self _)) ⟨_, _, rfl, rfl, yf_I yf_refl (by decide), yf_I yf_refl (by decide), Or.inl ⟨z1, z2, ?_⟩⟩
    show RS T H (fW LL r ++ (LL x.1 ++ sq_f Qn)) _ _
    rw [r2]
    have : fW LL r ++ (LL x.1 ++ (X ++ (sb_lab T ft).take ((sb_lab T ft).length - 1))) = ((fW LL r ++ LL x.1) ++ X) ++ (sb_lab T ft).take ((sb_lab T ft).length - 1) := by simp only [List.append_assoc]
    rw [this]
    exact r1
  · rw [if_neg q0, if_neg (fun t => q0 (hK.mpr t))]
    have hft2 : ∃ ft2, (sf_s f0 ((yy.1 - yy.1 % 2) :: s) :: q)[m]? = some ft2 ∧ ft2.1 = ft.1 ∧ sb_lab T ft2 = sb_lab T ft := by
      cases m with
      | zero => cases hft; exact ⟨_, rfl, rfl, rfl⟩
      | succ m => exact ⟨ft, hft, rfl, rfl⟩
    obtain ⟨ft2, g1, g2, g3⟩ := hft2
    have hta2 : sq_takes (yl_f T) (sb_lab T ft2).reverse (sf_s f0 ((yy.1 - yy.1 % 2) :: s) :: q) = some Q3 := by
      rw [g3, hlabe, List.reverse_append]
      show (sq_take (yl_f T) wl (sf_s f0 ((yy.1 - yy.1 % 2) :: s) :: q)).bind (sq_takes (yl_f T) ((sb_lab T ft).take ((sb_lab T ft).length - 1)).reverse) = some Q3
      have : sq_take (yl_f T) wl (sf_s f0 ((yy.1 - yy.1 % 2) :: s) :: q) = some (sf_s f0 s :: q) := by
        show (sq_pop (sf_s f0 ((yy.1 - yy.1 % 2) :: s) :: q)).bind (fun y => xs_if (yfit (yl_f T) y.1 wl) (some y.2)) = _
        rw [sq_pop_c (show (sf_s f0 ((yy.1 - yy.1 % 2) :: s)).2.2.2.2 = _ from rfl)]
        show xs_if (yfit (yl_f T) (yy.1 - yy.1 % 2) wl) (some (sf_s f0 s :: q)) = _
        rw [xs_ifp hfit]
      rw [this]; exact hta
    have hRS2 : RS T H ((fW LL r ++ LL x.1) ++ sq_f (sf_s f0 ((yy.1 - yy.1 % 2) :: s) :: q)) (uF z AA x u) w := by
      have e : (fW LL r ++ LL x.1) ++ sq_f (sf_s f0 ((yy.1 - yy.1 % 2) :: s) :: q) = ((fW LL r ++ LL x.1) ++ sq_f (sf_s f0 s :: q)) ++ [yy.1 - yy.1 % 2] := by
        show (fW LL r ++ LL x.1) ++ (sq_f q ++ ((yy.1 - yy.1 % 2) :: s).reverse) = ((fW LL r ++ LL x.1) ++ (sq_f q ++ s.reverse)) ++ [yy.1 - yy.1 % 2]
        rw [List.reverse_cons]; simp only [List.append_assoc]
      rw [e]
      exact RS_unpop c1 (by rw [hRS.1, hl]) (by rw [hRS.2.1, hl]) hW18 (rv_nn c2 b3 (fun t => q0 (hK.mpr t))) (by rw [c3, if_pos b3, if_pos (by omega)])
    obtain ⟨⟨fx, r1, r2, -⟩, r3⟩ := rz_brq (R := R) (u1 := uF z AA x u) (w1 := w) hfu h.1 hQ hd g1 hta2 z4 z5 z1 z2 z3 hRS2 hP hR
    rw [e91] at r1
    cases r1
    rw [r2]
    exact r3
end
