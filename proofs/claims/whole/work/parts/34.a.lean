section
variable {α β γ δ σ τ : Type} {u v w x u' v' : xk_St} {T : List (Nat × List Nat × List Nat)} {W W' W0 : List Nat} {n fu k c c' : Nat} {H : rH} {Q Q' : List sFr} {g : Nat → Nat}
theorem rv_16 {x : Int64} {f : Int32} {y : Int64} (h : rv T H c x f y) (hf : yfit (yl_f T) c c') : (16 ≤ c ↔ 16 ≤ c') := by
  have h0 := rv_c h
  rcases hf with y | y | y
  · omega
  · omega
  · exact ⟨fun _ => y.2.1, fun _ => y.1⟩
theorem RS_re (h : RS T H W u v) (hl : W'.length = W.length) (hw : ∀ (i : Nat) c c', W[i]? = some c → W'[i]? = some c' → c = c' ∨ (yfit (yl_f T) c c' ∧ c' < 150)) : RS T H W' u v := by
  obtain ⟨h1, h2, h3, h4⟩ := h
  refine ⟨by rw [hl]; exact h1, by rw [hl]; exact h2, by omega, fun i c' hc' => ?_⟩
  obtain ⟨c, hc⟩ := yl_get (l := W) (k := i) (by have := yl_lt hc'; omega)
  obtain ⟨a, b⟩ := h4 i c hc
  rcases hw i c c' hc hc' with rfl | ⟨y1, y2⟩
  · exact ⟨a, b⟩
  · refine ⟨rv_fit a y1 y2, ?_⟩
    rw [b]
    have := rv_16 a y1
    by_cases z : 16 ≤ c
    · rw [if_pos z, if_pos (this.mp z)]
    · rw [if_neg z, if_neg (fun y => z (this.mpr y))]
/-- what is taken when the rest can be come to -/
theorem sq_takesW : ∀ {ws : List Nat} {f : sFr} {r Q' : List sFr}, sq_takes g ws (f :: r) = some Q' → f.2.2.2.1 = false → ∃ ds s, f.2.2.2.2 = ds ++ s ∧ ds.length = ws.length ∧ (∀ (i : Nat) d w, ds[i]? = some d → ws[i]? = some w → yfit g d w) ∧ Q' = sf_s f s :: r := by
  intro ws
  induction ws with
  | nil =>
    intro f r Q' h _
    cases h
    exact ⟨[], f.2.2.2.2, rfl, rfl, fun i d w hd => by simp at hd, rfl⟩
  | cons x ws ih =>
    intro f r Q' h hd
    obtain ⟨Q1, h1, h2⟩ := Option.bind_eq_some_iff.mp (show (sq_take g x (f :: r)).bind (sq_takes g ws) = some Q' from h)
    obtain ⟨y, k1, k2⟩ := Option.bind_eq_some_iff.mp (show (sq_pop (f :: r)).bind (fun y => xs_if (yfit g y.1 x) (some y.2)) = some Q1 from h1)
    obtain ⟨k3, k4⟩ := xp_if k2
    cases k4
    cases hs : f.2.2.2.2 with
    | nil =>
      rw [sq_pop_0 hs, hd] at k1
      cases k1
    | cons c s =>
      rw [sq_pop_c hs] at k1
      cases k1
      obtain ⟨ds, s', a1, a2, a3, a4⟩ := ih h2 hd
      have a1 : s = ds ++ s' := a1
      refine ⟨c :: ds, s', by rw [a1]; rfl, by rw [List.length_cons, List.length_cons, a2], fun i d w hd hw => ?_, a4⟩
      cases i with
      | zero => cases hd; cases hw; exact k3
      | succ i => exact a3 i d w hd hw
theorem sq_sgW {ws cs : List Nat} {f : sFr} {r Q' : List sFr} (h : sq_sg T ws cs (f :: r) = some Q') (hd : f.2.2.2.1 = false) : ∃ ds s, f.2.2.2.2 = ds ++ s ∧ ds.length = ws.length ∧ (∀ (i : Nat) d w, ds[i]? = some d → ws[i]? = some w → yfit (yl_f T) d w) ∧ Q' = sf_s f (cs.reverse ++ s) :: r := by
  obtain ⟨Q1, h1, h2⟩ := Option.bind_eq_some_iff.mp (show (sq_takes (yl_f T) ws (f :: r)).bind (sq_pushes cs) = some Q' from h)
  obtain ⟨ds, s, a1, a2, a3, a4⟩ := sq_takesW h1 hd
  rw [a4] at h2
  exact ⟨ds, s, a1, a2, a3, sq_pushesS h2⟩
/-- the stacks before an instruction with this signature -/
theorem RS_sg {ws cs : List Nat} {f : sFr} {r Q' : List sFr} (h : RS T H (W0 ++ sq_f (f :: r)) u v) (hs : sq_sg T ws cs (f :: r) = some Q') (hd : f.2.2.2.1 = false) (hw : ∀ w, w ∈ ws → w < 150) : ∃ X s', RS T H ((W0 ++ X) ++ ws.reverse) u v ∧ sq_f Q' = X ++ cs ∧ Q' = sf_s f s' :: r := by
  obtain ⟨ds, s, a1, a2, a3, a4⟩ := sq_sgW hs hd
  refine ⟨sq_f r ++ s.reverse, _, RS_re h ?_ fun i c c' hc hc' => ?_, ?_, a4⟩
  · show ((W0 ++ (sq_f r ++ s.reverse)) ++ ws.reverse).length = (W0 ++ (sq_f r ++ f.2.2.2.2.reverse)).length
    rw [a1]
    simp only [List.length_append, List.length_reverse]
    omega
  · have e1 : W0 ++ sq_f (f :: r) = (W0 ++ (sq_f r ++ s.reverse)) ++ ds.reverse := by
      show W0 ++ (sq_f r ++ f.2.2.2.2.reverse) = _
      rw [a1, List.reverse_append]
      simp only [List.append_assoc]
    rw [e1] at hc
    by_cases z : i < (W0 ++ (sq_f r ++ s.reverse)).length
    · rw [List.getElem?_append_left z] at hc hc'
      rw [hc] at hc'
      cases hc'
      exact Or.inl rfl
    · rw [List.getElem?_append_right (by omega)] at hc hc'
      have hlt := yl_lt hc
      rw [List.length_reverse] at hlt
      rw [List.getElem?_reverse (by omega)] at hc
      rw [List.getElem?_reverse (by omega), ← a2] at hc'
      exact Or.inr ⟨a3 _ _ _ hc hc', hw c' (List.mem_of_getElem? hc')⟩
  · rw [a4]
    show sq_f r ++ (cs.reverse ++ s).reverse = (sq_f r ++ s.reverse) ++ cs
    rw [List.reverse_append, List.reverse_reverse, List.append_assoc]
theorem xs_id {o : Option (Unit × xk_St)} : (xs_seq o fun _ u => some ((), u)) = o := by
  rcases o with _ | ⟨a, b⟩ <;> rfl
/-- a value more -/
theorem RO_push {x : Int64} (h : RS T H W u v) (hl : W.length < 18000) (h7 : u.1 27 = 0) (h9 : v.1 29 = 0) (hr : rv T H c x 0 x) (hc : c < 16) : RO T H (W ++ [c]) u v (fm_Values_push__h61 x u) (fm_Model_tell x v) := by
  have hp := RS_push h hl hr
  rw [if_neg (show ¬ 16 ≤ c by omega)] at hp
  exact ⟨_, _, hp_push h.1 hl, mp_tell h.2.1 hl, yf_mono uP_f (by decide), yf_mono vP_f (by decide), Or.inl ⟨h7, h9, hp⟩⟩
/-- after values were taken off -/
theorem RO_i {m : Nat} {ou ov : Option (Unit × xk_St)} (h : RO T H W (xs_I u 28 (nI m)) (xs_I v 26 (nI m)) ou ov) : RO T H W u v ou ov := by
  obtain ⟨u', v', a1, a2, a3, a4, a5⟩ := h
  exact ⟨u', v', a1, a2, yf_trans (yf_I yf_refl (by decide)) a3, yf_trans (yf_I yf_refl (by decide)) a4, a5⟩
/-- the same trap -/
theorem RO_trap {t : Nat} (h0 : 0 < t) (h20 : t < 20) : RO T H W u v (some ((), xs_I u 27 (nI t))) (some ((), xs_I v 29 (nI t))) := ⟨_, _, rfl, rfl, yf_I yf_refl (by decide), yf_I yf_refl (by decide), Or.inr ⟨t, h0, h20, rfl, rfl⟩⟩
/-- one number is taken off on both sides -/
theorem RS_n (h : RS T H (W ++ [c]) u v) (hc : c = 1 ∨ c = 2) : ∃ y : Int64, fm_Values_pop__h61 u = some (y, xs_I u 28 (nI W.length)) ∧ fm_Model_drop v = some (y, xs_I v 26 (nI W.length)) ∧ (c = 1 → y.toInt32.toInt64 = y) ∧ RS T H W (xs_I u 28 (nI W.length)) (xs_I v 26 (nI W.length)) ∧ W.length < 18000 := by
  have hlen : (W ++ [c]).length = W.length + 1 := by rw [List.length_append, List.length_singleton]
  have h3 := h.2.2.1
  obtain ⟨a1, a2, a3⟩ := RS_pop h
  have e1 := hp_pop (u := u) (n := W.length) (by rw [h.1, hlen]) (by omega)
  have e2 := mp_drop (v := v) (n := W.length) (by rw [h.2.1, hlen]) (by omega)
  have hx : u.2.2.2 10 W.length = v.2.2.2 3 W.length ∧ (c = 1 → (v.2.2.2 3 W.length).toInt32.toInt64 = v.2.2.2 3 W.length) := by
    rcases hc with rfl | rfl
    · obtain ⟨b1, b2, b3⟩ := rv_1 a2
      exact ⟨b1, fun _ => b3⟩
    · exact ⟨(rv_2 a2).1, fun y => by cases y⟩
  exact ⟨_, e1, by rw [e2, hx.1], by rw [hx.1]; exact hx.2, a1, by omega⟩
end
