section
variable {α β γ δ σ τ : Type} {B : Nat → Int32} {u v w u' v' : xk_St} {T : List (Nat × List Nat × List Nat)} {F : List Nat} {G : List (Nat × Nat × Nat × Int64)} {L : List Nat} {n fu tc mc lim p q len f D k tn tn' j d : Nat} {Q Q' Q1 Qn : List sFr} {z : Nat → Nat} {LL : Nat → List Nat} {AA : Nat → sBo} {tt : Nat → Nat} {a : sBo} {H H' : rH} {fs r : List rFr} {x x' : rFr} {y : Nat × sIn} {ft : sFr}
theorem sSt_add {sz t m : Nat} (h : sSt T F tc mc G L sz t a j Q) (hj : j ≤ a.2.2.length) (h2 : sq_run T F tc mc G L (sz + 1 + a.2.1.length + j) ((a.2.2.drop j).take m) Q = some Q') : sSt T F tc mc G L sz t a (j + m) Q' := by
  unfold sSt at h ⊢
  rw [List.take_add, sq_run_app, h, List.length_take, show min j a.2.2.length = j by omega]
  exact h2
theorem sSt_rest {sz t : Nat} (h : sSt T F tc mc G L sz t a j Q) (hj : j ≤ a.2.2.length) (hr : sq_run T F tc mc G L (sz + 1 + a.2.1.length) a.2.2 (sq_0 sz t) = some []) : sq_run T F tc mc G L (sz + 1 + a.2.1.length + j) (a.2.2.drop j) Q = some [] := by
  unfold sSt at h
  rw [← List.take_append_drop j a.2.2, sq_run_app, h, List.length_take, show min j a.2.2.length = j by omega] at hr
  exact hr
/-- the body of a call that is under way -/
theorem rx_body (h : RX D B len T F tc mc G z LL AA tt H (x :: r) tn u v) : ∃ c, hCo T F tc mc G (z x.1) x.1 (tt x.1) c (LL x.1) (AA x.1) u ∧ sq_run T F tc mc G (LL x.1) (z x.1 + 1 + (AA x.1).2.1.length) (AA x.1).2.2 (sq_0 (z x.1) (tt x.1)) = some [] ∧ x.2.1 < (AA x.1).2.2.length ∧ (∀ (j : Nat) y Qj, (AA x.1).2.2[j]? = some y → sSt T F tc mc G (LL x.1) (z x.1) (tt x.1) (AA x.1) j Qj → ¬ Qj = [] ∧ (y.2.1 = 5 → ∀ f r, Qj = f :: r → f.2.1 = 4)) ∧ (∀ (j : Nat) y, (AA x.1).2.2[j]? = some y → 0 < y.1) ∧ (∀ j, 0 < pq (AA x.1) j) := by
  obtain ⟨y, Qn, hy⟩ := rx_at h
  obtain ⟨h1, h2, h3, h4, h5, h6, h7, h8, h9⟩ := h
  obtain ⟨g1, g2, g3, g4⟩ := h3.1.2.2.2.2.2.1
  obtain ⟨⟨c, hc⟩, hm, r2, b1, b2, b3, b4, b5, b6, b7⟩ := h1.2.2.2.2.2.2.2 x.1 g1
  obtain ⟨-, Qe, hrun⟩ := sq_body_run hc.2.2.2.1
  have hM : sM [false] (sq_0 (z x.1) (tt x.1)) := ⟨(fun y => by cases y), trivial⟩
  have hQe := sq_fin b1 hM hrun
  rw [hQe] at hrun
  have hpos : ∀ (j : Nat) y, (AA x.1).2.2[j]? = some y → 0 < y.1 := fun j y hy => by
    have := yp_codeP b1 j y hy
    omega
  refine ⟨c, hc, hrun, yl_lt hy.1, fun j y Qj hy hs => sM_at b1 hM j y Qj hy hs, hpos, fun j => ?_⟩
  unfold pq
  cases hj : (AA x.1).2.2[j]? with
  | none => show 0 < (AA x.1).1; omega
  | some y => exact hpos j y hj
/-- the end of an open block: where both sides go behind it -/
theorem rx_end (h : RX D B len T F tc mc G z LL AA tt H (x :: r) tn u v) (hd : x.2.2[d]? = some ft) : ∃ je y f' Qe, x.2.1 ≤ je ∧ (AA x.1).2.2[je]? = some y ∧ y.2.1 = 11 ∧ sSt T F tc mc G (LL x.1) (z x.1) (tt x.1) (AA x.1) je (f' :: x.2.2.drop (d + 1)) ∧ f'.1 = ft.1 ∧ f'.2.2.1 = ft.2.2.1 ∧ (f'.2.1 = ft.2.1 ∨ f'.2.1 = 5) ∧ sSt T F tc mc G (LL x.1) (z x.1) (tt x.1) (AA x.1) (je + 1) Qe ∧ (f'.2.1 = 4 → sb_same T ft.2.2.1) ∧ ((x.2.2.drop (d + 1) = [] ∧ Qe = []) ∨ (¬ x.2.2.drop (d + 1) = [] ∧ sq_pushes (sb_res T ft.2.2.1) (x.2.2.drop (d + 1)) = some Qe)) ∧ sEn' (z x.1) (AA x.1) je < 8192 ∧ ((f'.2.1 = 5 → ∃ e5, e5 < 8192 ∧ u.2.2.1 9 ft.1.1 = nI e5 ∧ u.2.2.1 7 e5 = 5 ∧ u.2.2.1 9 e5 = nI (sEn' (z x.1) (AA x.1) je)) ∧ (¬ f'.2.1 = 5 → u.2.2.1 9 ft.1.1 = nI (sEn' (z x.1) (AA x.1) je))) ∧ (u.2.2.1 7 (sEn' (z x.1) (AA x.1) je) = 7 ∨ u.2.2.1 7 (sEn' (z x.1) (AA x.1) je) = 11) ∧ (¬ ft.1.2 = 0 → v.2.2.1 20 ft.1.2 = nI (pq (AA x.1) (je + 1)) ∧ (f'.2.1 = 4 → v.2.2.1 21 ft.1.2 = 0)) := by
  obtain ⟨c, hc, hrun, hj, hat, -, -⟩ := rx_body h
  obtain ⟨h1, h2, h3, h4, h5, h6, h7, h8, h9⟩ := h
  obtain ⟨t1, t2, t3, t4⟩ := h9 x r rfl
  obtain ⟨g1, g2, g3, g4⟩ := h3.1.2.2.2.2.2.1
  obtain ⟨-, hm, r2, b1, b2, b3, b4, b5, b6, b7⟩ := h1.2.2.2.2.2.2.2 x.1 g1
  have hrest := sSt_rest t4 (by omega) hrun
  obtain ⟨m, y, f', k1, k2, k3, k4, k5, k6⟩ := sq_close hrest d ft hd
  rw [List.getElem?_drop] at k1
  have hst := sSt_add t4 (by omega) k3
  obtain ⟨Qi, Qe, d1, d2, d3⟩ := sq_run_pre hrun (x.2.1 + m) y k1
  have hQi : Qi = f' :: x.2.2.drop (d + 1) := Option.some.inj (d1.symm.trans hst)
  subst hQi
  have hst1 : sSt T F tc mc G (LL x.1) (z x.1) (tt x.1) (AA x.1) (x.2.1 + m + 1) Qe := by
    unfold sSt
    rw [sq_run_next k1, d1]
    exact d2
  have hse : sq_end T (f' :: x.2.2.drop (d + 1)) = some Qe := by
    unfold sq_step at d2
    rw [if_neg (by omega), if_neg (by omega), if_neg (by omega), if_neg (by omega), if_neg (by omega), if_pos k2] at d2
    exact d2
  obtain ⟨e1, e2⟩ := sq_endS hse
  have hin := hc.2.2.2.2.2.2.2.2.2.2 (x.2.1 + m) y _ Qe k1 hst d2
  have hlt := yl_lt k1
  have hend : sEnd (z x.1) (AA x.1) = z x.1 + 1 + (AA x.1).2.1.length + (AA x.1).2.2.length := rfl
  have h8192 := hc.2.2.2.2.2.1
  have h11 := hin.2.2.2.1 k2 f' _ rfl
  rw [k4] at h11
  refine ⟨x.2.1 + m, y, f', Qe, by omega, k1, k2, hst, k4, k5, k6, hst1, by rw [← k5]; exact e1, ?_, by show z x.1 + 1 + (AA x.1).2.1.length + (x.2.1 + m) < 8192; omega, h11, ?_, fun h0 => ?_⟩
  · rcases e2 with ⟨e3, e4⟩ | ⟨e3, e4, -⟩
    · exact Or.inl ⟨e3, e4⟩
    · exact Or.inr ⟨e3, by rw [← k5]; exact e4⟩
  · rw [hin.1, if_pos k2]
    by_cases zt : (f' :: x.2.2.drop (d + 1)).tail = []
    · rw [if_pos zt]; exact Or.inl rfl
    · rw [if_neg zt]; exact Or.inr rfl
  · have := (b6 (x.2.1 + m) y f' _ k1 hst (by rw [k4]; exact h0)).1 k2
    rw [k4] at this
    exact this
/-- where an open block began -/
theorem rx_open (h : RX D B len T F tc mc G z LL AA tt H (x :: r) tn u v) (hd : x.2.2[d]? = some ft) : (d + 1 = x.2.2.length ∧ ft.1 = (z x.1, 0) ∧ ft.2.1 = 0 ∧ ft.2.2.1 = .inr (lN (tt x.1))) ∨ ∃ k0 x0 st, k0 < x.2.1 ∧ (AA x.1).2.2[k0]? = some x0 ∧ (x0.2.1 = 2 ∨ x0.2.1 = 3 ∨ x0.2.1 = 4) ∧ ft.1 = (sEn' (z x.1) (AA x.1) k0, x0.1) ∧ ft.2.2.1 = x0.2.2.1 ∧ (ft.2.1 = x0.2.1 ∨ ft.2.1 = 5) ∧ ¬ ft.1.2 = 0 ∧ sSt T F tc mc G (LL x.1) (z x.1) (tt x.1) (AA x.1) (k0 + 1) (((sEn' (z x.1) (AA x.1) k0, x0.1), x0.2.1, x0.2.2.1, false, st) :: x.2.2.drop (d + 1)) := by
  obtain ⟨c, hc, hrun, hj, hat, hpos, -⟩ := rx_body h
  obtain ⟨h1, h2, h3, h4, h5, h6, h7, h8, h9⟩ := h
  obtain ⟨t1, t2, t3, t4⟩ := h9 x r rfl
  rcases sq_opened (fun j y Qj hy hs => hat j y Qj hy hs) x.2.1 x.2.2 (by omega) t4 d ft hd with y | ⟨k0, x0, a1, a2, a3, a4, a5, a6, st, a7⟩
  · exact Or.inl y
  · refine Or.inr ⟨k0, x0, st, a1, a2, a3, a4, a5, a6, ?_, a7⟩
    rw [a4]
    have := hpos k0 x0 a2
    show ¬ x0.1 = 0
    omega
end
