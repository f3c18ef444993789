section
variable {α β γ δ σ τ : Type} {B : Nat → Int32} {u v w u' v' u0 v0 : xk_St} {T : List (Nat × List Nat × List Nat)} {F : List Nat} {G : List (Nat × Nat × Nat × Int64)} {L W0 : List Nat} {n fu tc mc lim p q len f D k tn tn' j d b g m : Nat} {z : Nat → Nat} {LL : Nat → List Nat} {AA : Nat → sBo} {tt : Nat → Nat} {H H' : rH} {fs r rr : List rFr} {x x' : rFr} {c : Nat × List Nat × List Nat} {y : Nat × sIn} {Q Qn Q1 : List sFr} {P : List rFr → Nat → Prop} {R : List Nat}
theorem rf_RS' (h : rFt D B len T F tc mc G z LL AA tt H x r tn y Qn u v w) {f0 : sFr} {q : List sFr} (hQ : x.2.2 = f0 :: q) : RS T H ((fW LL r ++ LL x.1) ++ sq_f (f0 :: q)) (uF z AA x u) w := by
  have := rf_RS h
  have e : fW LL (x :: r) = (fW LL r ++ LL x.1) ++ sq_f (f0 :: q) := by
    show fW LL r ++ (LL x.1 ++ sq_f x.2.2) = _
    rw [hQ, List.append_assoc]
  rw [e] at this; exact this
/-- one number is taken off, by the check -/
theorem sq_take1 {f0 : sFr} {q : List sFr} {t : Nat} (h : sq_take (yl_f T) t (f0 :: q) = some Q1) (hd : f0.2.2.2.1 = false) : ∃ c s, f0.2.2.2.2 = c :: s ∧ yfit (yl_f T) c t ∧ Q1 = sf_s f0 s :: q := by
  obtain ⟨y, k1, k2⟩ := Option.bind_eq_some_iff.mp (show (sq_pop (f0 :: q)).bind (fun y => xs_if (yfit (yl_f T) y.1 t) (some y.2)) = some Q1 from h)
  obtain ⟨k3, k4⟩ := xp_if k2
  cases k4
  cases hs : f0.2.2.2.2 with
  | nil => rw [sq_pop_0 hs, hd] at k1; cases k1
  | cons c s =>
    rw [sq_pop_c hs] at k1
    cases k1
    exact ⟨c, s, rfl, k3, rfl⟩
/-- a condition is taken off, on both sides -/
theorem rf_cond {f0 : sFr} {q : List sFr} (h : RS T H (W0 ++ sq_f (f0 :: q)) u v) (ht : sq_take (yl_f T) 1 (f0 :: q) = some Q1) (hd : f0.2.2.2.1 = false) : ∃ s yv, Q1 = sf_s f0 s :: q ∧ fm_Values_pop__h61 u = some (yv, xs_I u 28 (nI (W0 ++ sq_f Q1).length)) ∧ fm_Model_drop v = some (yv, xs_I v 26 (nI (W0 ++ sq_f Q1).length)) ∧ yv.toInt32.toInt64 = yv ∧ RS T H (W0 ++ sq_f Q1) (xs_I u 28 (nI (W0 ++ sq_f Q1).length)) (xs_I v 26 (nI (W0 ++ sq_f Q1).length)) := by
  obtain ⟨c, s, a1, a2, a3⟩ := sq_take1 ht hd
  have e : W0 ++ sq_f (f0 :: q) = (W0 ++ sq_f Q1) ++ [c] := by
    rw [a3]
    show W0 ++ (sq_f q ++ f0.2.2.2.2.reverse) = (W0 ++ (sq_f q ++ s.reverse)) ++ [c]
    rw [a1, List.reverse_cons]
    simp only [List.append_assoc]
  rw [e] at h
  have h1 : RS T H ((W0 ++ sq_f Q1) ++ [1]) u v := by
    refine RS_re h (by rw [List.length_append, List.length_append (as := W0 ++ sq_f Q1)]; rfl) fun i c1 c2 h1 h2 => ?_
    by_cases zi : i < (W0 ++ sq_f Q1).length
    · rw [List.getElem?_append_left zi] at h1 h2
      rw [h1] at h2; cases h2
      exact Or.inl rfl
    · rw [List.getElem?_append_right (by omega)] at h1 h2
      have hi := yl_lt h1
      rw [List.length_singleton] at hi
      have e0 : i - (W0 ++ sq_f Q1).length = 0 := by omega
      rw [e0] at h1 h2
      cases h1; cases h2
      exact Or.inr ⟨a2, by decide⟩
  obtain ⟨yv, b1, b2, b3, b4, b5⟩ := RS_n h1 (Or.inl rfl)
  exact ⟨s, yv, a3, b1, b2, b3 rfl, b4⟩
/-- 0x0d -/
theorem ri_13 (hfu : 18000 < fu) (h : rFt D B len T F tc mc G z LL AA tt H x r tn y Qn u v w) (hi : y.2.1 = 13) (hP : rPs P x r tn) (hR : ∀ c, r = [] → T[tt x.1]? = some c → R = c.2.2) : RZ D B len T F tc mc G z LL AA tt P R (fm_Machine_step fu (u.2.2.1 7 (kF z AA x)) (nI (kF z AA x)) (uF z AA x u)) (mr_st fu w) := by
  have h7 : u.2.2.1 7 (kF z AA x) = nI 13 := by rw [h.2.1.2.2.1.1, if_neg (by omega), hi]
  have h8 : w.1 8 = nI 13 := by rw [h.2.2.2.1.2.2.2.1, if_pos (by omega), hi]
  have hk : kF z AA x < 8192 := h.2.1.2.2.2.2.2.2.2.1
  obtain ⟨m, m1, m2, -⟩ := h.2.1.2.2.2.2.2.2.1.2.2.2.2.2.2.1 (by rw [hi]; decide +kernel)
  obtain ⟨f0, q, hQ, hd⟩ := rf_Q h
  obtain ⟨z1, z2, z3, z4, z5⟩ := rf_0 h
  have hs := h.2.1.2.1
  unfold sq_step at hs
  rw [if_neg (by omega), if_neg (by omega), if_neg (by omega), if_neg (by omega), if_neg (by omega), if_neg (by omega), if_neg (by omega), if_pos hi, m2, yx_lN (by omega), hQ] at hs
  obtain ⟨Q0, ht0, hs⟩ := Option.bind_eq_some_iff.mp hs
  obtain ⟨ft, hft, hs⟩ := Option.bind_eq_some_iff.mp hs
  obtain ⟨s, yv, a3, p1, p2, p3, p4⟩ := rf_cond (rf_RS' h hQ) ht0 hd
  -- the block is one of the open ones, whose tail has not changed
  have hdl := yl_lt hft
  have hl0 : Q0.length = x.2.2.length := by rw [a3, hQ, List.length_cons, List.length_cons]
  have hQ100 : x.2.2.length ≤ 100 := h.1.2.2.1.1.2.2.2.2.2.1.2.2.2.2.1
  obtain ⟨fx, hfx⟩ := yl_get (l := x.2.2) (k := m) (by omega)
  have hsm : fx.1 = ft.1 ∧ sb_lab T fx = sb_lab T ft ∧ x.2.2.drop (m + 1) = Q0.drop (m + 1) := by
    rw [hQ] at hfx ⊢
    rw [a3] at hft ⊢
    cases m with
    | zero => cases hfx; cases hft; exact ⟨rfl, rfl, rfl⟩
    | succ m =>
      have hft : q[m]? = some ft := hft
      have hfx : q[m]? = some fx := hfx
      rw [hft] at hfx; cases hfx
      exact ⟨rfl, rfl, rfl⟩
  have ej : (w.2.1 0).toInt32 = nI m := by
    rw [h.2.2.2.1.1, m2]
    exact sb_nLi (by omega)
  obtain ⟨ft', b1, b2⟩ := h.2.1.2.2.1.2.2.2.2.2.1 (Or.inr (Or.inl hi))
  rw [m2, yx_lN (by omega), hfx] at b1
  cases b1
  have e1 : fm_Machine_step fu (nI 13) (nI (kF z AA x)) (uF z AA x u) = if yv = 0 then some ((), xs_I (uF z AA x u) 28 (nI ((fW LL r ++ LL x.1) ++ sq_f Q0).length)) else fm_Machine_branch fu (nI fx.1.1) (xs_I (uF z AA x u) 28 (nI ((fW LL r ++ LL x.1) ++ sq_f Q0).length)) := by
    have : fm_Machine_step fu (nI 13) (nI (kF z AA x)) (uF z AA x u) = xs_seq (xs_seq (fm_Values_pop__h61 (uF z AA x u)) fun a9 u10 => if a9 = (0 : Int64) then some ((), u10) else (if nI (kF z AA x) < 0 ∨ 8192 ≤ (nI (kF z AA x)).toNatClampNeg then none else xs_seq (fm_Machine_branch fu (u10.2.2.1 9 (nI (kF z AA x)).toNatClampNeg) u10) fun _ u11 => some ((), u11))) fun _ u9 => some ((), u9) := rfl
    rw [this, p1, ys_seq, xs_id, ix8192 hk, nI_clamp (by omega), xs_id]
    have : (xs_I (uF z AA x u) 28 (nI ((fW LL r ++ LL x.1) ++ sq_f Q0).length)).2.2.1 9 (kF z AA x) = nI fx.1.1 := b2
    rw [this]
  have e0 : mr_st fu w = if yv = 0 then some ((), xs_I w 26 (nI ((fW LL r ++ LL x.1) ++ sq_f Q0).length)) else fm_Model_goOut fu (nI m) (xs_I w 26 (nI ((fW LL r ++ LL x.1) ++ sq_f Q0).length)) := by
    unfold mr_st fm_Model_doWays
    simp only [xs_let]
    rw [h8]
    show (xs_seq (fm_Model_drop w) fun a9 u10 => if a9 = (0 : Int64) then some ((), u10) else (xs_seq (fm_Model_goOut fu ((u10.2.1 0).toInt32) u10) fun _ u11 => some ((), u11))) = _
    rw [p2, ys_seq, xs_id]
    have : ((xs_I w 26 (nI ((fW LL r ++ LL x.1) ++ sq_f Q0).length)).2.1 0).toInt32 = nI m := ej
    rw [this]
  rw [h7, e0, e1]
  have hd0 : (sf_s f0 s).2.2.2.1 = false := hd
  by_cases zy : yv = 0
  · rw [if_pos zy, if_pos zy]
    -- on: what the way takes is brought back
    have hsg : sq_sg T (sb_lab T ft).reverse (sb_lab T ft) (sf_s f0 s :: q) = some Qn := by rw [← a3]; exact hs
    have hq := sTq_sg hsg hd0
    obtain ⟨g0, g1, g2, g3, g4, g5, g6⟩ := hq
    injection g3 with c1 c2
    subst c1; subst c2
    refine rz_simple h.1 h.2.1 ⟨f0, g1, q, hQ, g4, g5, g6⟩ h.2.2.1 h.2.2.2.2.1 z3 (hP.2.1 _ _ (Nat.lt_succ_self _)) ⟨_, _, rfl, rfl, yf_I yf_refl (by decide), yf_I yf_refl (by decide), Or.inl ⟨z1, z2, ?_⟩⟩
    rw [a3] at p4
    obtain ⟨X, s', r1, r2, r3⟩ := RS_sg p4 hsg hd0 (fun w hw => (rx_lab h.1 hfx).1 w (by rw [hsm.2.1]; exact List.mem_reverse.mp hw))
    rw [List.reverse_reverse] at r1
    show RS T H (fW LL r ++ (LL x.1 ++ sq_f Qn)) _ _
    rw [r2]
    have : fW LL r ++ (LL x.1 ++ (X ++ sb_lab T ft)) = ((fW LL r ++ LL x.1) ++ X) ++ sb_lab T ft := by simp only [List.append_assoc]
    rw [this, a3]; exact r1
  · rw [if_neg zy, if_neg zy]
    obtain ⟨Q2, ht2, -⟩ := Option.bind_eq_some_iff.mp (show (sq_takes (yl_f T) (sb_lab T ft).reverse Q0).bind (sq_pushes (sb_lab T ft)) = some Qn from hs)
    rw [a3] at ht2 p4
    obtain ⟨Y, hY⟩ := RS_lab (d := m) p4 ht2 hd0 (fun w hw => (rx_lab h.1 hfx).1 w (by rw [hsm.2.1]; exact hw))
    refine rz_branch (Y := Y) hfu h.1 (yf_I z4 (by decide)) (yf_I z5 (by decide)) z1 z2 z3 hfx ?_ hP.1 hP.2.1 hP.2.2 hR
    rw [hsm.2.1, hsm.2.2, a3]
    have : fW LL r ++ (LL x.1 ++ (sq_f ((sf_s f0 s :: q).drop (m + 1)) ++ (Y ++ sb_lab T ft))) = (fW LL r ++ LL x.1) ++ (sq_f ((sf_s f0 s :: q).drop (m + 1)) ++ (Y ++ sb_lab T ft)) := by rw [List.append_assoc]
    rw [this]; exact hY
end
