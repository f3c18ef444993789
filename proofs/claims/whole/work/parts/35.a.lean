section
variable {α β γ δ σ τ : Type} {B : Nat → Int32} {u v w u' v' u0 v0 : xk_St} {T : List (Nat × List Nat × List Nat)} {F : List Nat} {G : List (Nat × Nat × Nat × Int64)} {L W0 : List Nat} {n fu tc mc lim p q len f D k tn tn' j d b g m : Nat} {z : Nat → Nat} {LL : Nat → List Nat} {AA : Nat → sBo} {tt : Nat → Nat} {H H' : rH} {fs r rr : List rFr} {x x' : rFr} {c : Nat × List Nat × List Nat} {y : Nat × sIn} {Q Qn Q1 : List sFr} {P : List rFr → Nat → Prop} {R : List Nat}
/-- an instruction has been fetched on both sides -/
def rFt (D : Nat) (B : Nat → Int32) (len : Nat) (T : List (Nat × List Nat × List Nat)) (F : List Nat) (tc mc : Nat) (G : List (Nat × Nat × Nat × Int64)) (z : Nat → Nat) (LL : Nat → List Nat) (AA : Nat → sBo) (tt : Nat → Nat) (H : rH) (x : rFr) (r : List rFr) (tn : Nat) (y : Nat × sIn) (Qn : List sFr) (u v w : xk_St) : Prop := RX D B len T F tc mc G z LL AA tt H (x :: r) tn u v ∧ rAt T F tc mc G z LL AA tt B len x y Qn u ∧ yf_fr [4, 6, 8, 9, 10, 11, 23] [0, 1] [] [] v w ∧ yi_ins y.2 w ∧ w.1 4 = nI (pq (AA x.1) (x.2.1 + 1)) ∧ w.1 6 = 0 ∧ w.1 23 = nI y.1 ∧ ym_st B len (pq (AA x.1) (x.2.1 + 1)) w
/-- the class behind its fetch -/
abbrev uF (z : Nat → Nat) (AA : Nat → sBo) (x : rFr) (u : xk_St) : xk_St := xs_I u 26 (nI (sEn' (z x.1) (AA x.1) x.2.1 + 1))
abbrev kF (z : Nat → Nat) (AA : Nat → sBo) (x : rFr) : Nat := sEn' (z x.1) (AA x.1) x.2.1
/-- the stacks behind the fetch -/
theorem rf_RS (h : rFt D B len T F tc mc G z LL AA tt H x r tn y Qn u v w) : RS T H (fW LL (x :: r)) (uF z AA x u) w := RS_fv (RS_fu h.1.2.1 (yf_I (I := [26]) (J := []) (A := []) (B := []) yf_refl (by decide)) (by decide)) h.2.2.1 (by decide)
theorem rf_0 (h : rFt D B len T F tc mc G z LL AA tt H x r tn y Qn u v w) : (uF z AA x u).1 27 = 0 ∧ w.1 29 = 0 ∧ w.1 6 = 0 ∧ yf_fr [26, 27, 28] [] [37] [10] u (uF z AA x u) ∧ yf_fr [4, 6, 8, 9, 10, 11, 23, 26, 29] [0, 1] [29] [3] v w := ⟨h.1.2.2.2.2.2.2.2.1.1, (h.2.2.1.1 29 (by decide)).trans h.1.2.2.2.2.2.2.2.1.2.1, h.2.2.2.2.2.1, yf_I yf_refl (by decide), yf_mono h.2.2.1 (by decide)⟩
theorem rf_Q (h : rFt D B len T F tc mc G z LL AA tt H x r tn y Qn u v w) : ∃ f0 q, x.2.2 = f0 :: q ∧ f0.2.2.2.1 = false := by
  have hg := h.1.2.2.1.1.2.2.2.2.2.1
  cases hx : x.2.2 with
  | nil => exact absurd hx hg.2.1
  | cons f0 q => exact ⟨f0, q, rfl, hg.2.2.1 0 f0 (by rw [hx]; rfl)⟩
/-- what a way takes lies on top, in its types -/
theorem RS_lab {f0 : sFr} {q : List sFr} {lab : List Nat} (h : RS T H (W0 ++ sq_f (f0 :: q)) u v) (ht : sq_takes (yl_f T) lab.reverse (f0 :: q) = some Q1) (hd : f0.2.2.2.1 = false) (hl : ∀ w, w ∈ lab → w < 150) : ∃ Y, RS T H (W0 ++ (sq_f ((f0 :: q).drop (d + 1)) ++ (Y ++ lab))) u v := by
  obtain ⟨ds, s, a1, a2, a3, a4⟩ := sq_takesW ht hd
  refine ⟨sq_f (q.take d) ++ s.reverse, ?_⟩
  have e1 : sq_f (f0 :: q) = sq_f ((f0 :: q).drop (d + 1)) ++ ((sq_f (q.take d) ++ s.reverse) ++ ds.reverse) := by
    have : f0 :: q = (f0 :: q.take d) ++ q.drop d := by rw [List.cons_append, List.take_append_drop]
    rw [this, sq_fa]
    have e2 : ((f0 :: q.take d) ++ q.drop d).drop (d + 1) = q.drop d := by rw [← this]; rfl
    rw [e2]
    congr 1
    show sq_f (q.take d) ++ f0.2.2.2.2.reverse = _
    rw [a1, List.reverse_append, List.append_assoc]
  have hr : RS T H ((W0 ++ (sq_f ((f0 :: q).drop (d + 1)) ++ (sq_f (q.take d) ++ s.reverse))) ++ ds.reverse) u v := by
    rw [e1] at h
    have : (W0 ++ (sq_f ((f0 :: q).drop (d + 1)) ++ (sq_f (q.take d) ++ s.reverse))) ++ ds.reverse = W0 ++ (sq_f ((f0 :: q).drop (d + 1)) ++ ((sq_f (q.take d) ++ s.reverse) ++ ds.reverse)) := by simp only [List.append_assoc]
    rw [this]; exact h
  have hlen : ds.length = lab.length := by rw [a2, List.length_reverse]
  have hg : RS T H ((W0 ++ (sq_f ((f0 :: q).drop (d + 1)) ++ (sq_f (q.take d) ++ s.reverse))) ++ lab) u v := by
    refine RS_re hr (by rw [List.length_append, List.length_append (as := _ ++ _), List.length_reverse, hlen]) fun i c c' hc hc' => ?_
    by_cases zi : i < (W0 ++ (sq_f ((f0 :: q).drop (d + 1)) ++ (sq_f (q.take d) ++ s.reverse))).length
    · rw [List.getElem?_append_left zi] at hc hc'
      rw [hc] at hc'; cases hc'
      exact Or.inl rfl
    · rw [List.getElem?_append_right (by omega)] at hc hc'
      have hlt := yl_lt hc'
      rw [List.getElem?_reverse (by omega)] at hc
      have hc2 : lab.reverse[ds.length - 1 - (i - (W0 ++ (sq_f ((f0 :: q).drop (d + 1)) ++ (sq_f (q.take d) ++ s.reverse))).length)]? = some c' := by
        rw [List.getElem?_reverse (by omega), ← hc']
        congr 1; omega
      exact Or.inr ⟨a3 _ c c' hc hc2, hl c' (List.mem_of_getElem? hc')⟩
  have : (W0 ++ (sq_f ((f0 :: q).drop (d + 1)) ++ (sq_f (q.take d) ++ s.reverse))) ++ lab = W0 ++ (sq_f ((f0 :: q).drop (d + 1)) ++ ((sq_f (q.take d) ++ s.reverse) ++ lab)) := by simp only [List.append_assoc]
  rw [← this]; exact hg
/-- types of a way -/
theorem rx_lab (h : RX D B len T F tc mc G z LL AA tt H (x :: r) tn u v) {ft : sFr} (hd : x.2.2[d]? = some ft) : (∀ w, w ∈ sb_lab T ft → w < 150) ∧ ∀ w, w ∈ sb_res T ft.2.2.1 → w < 150 := by
  have hok := sq_okget h.2.2.1.1.2.2.2.2.2.1.2.2.2.2.2 hd
  have hE := h.1.2.2.1
  refine ⟨fun w hw => ?_, fun w hw => ?_⟩
  · have hp := sb_prV (b := decide (¬ ft.2.1 = 3)) hE hok.1 hok.2.1
    rw [← sb_labp] at hp
    obtain ⟨i, hi⟩ := List.getElem?_of_mem hw
    exact (hp.2 i w hi).1.1
  · have hp := sb_prV (b := true) hE hok.1 hok.2.1
    obtain ⟨i, hi⟩ := List.getElem?_of_mem hw
    exact (hp.2 i w hi).1.1
/-- what the measure of a run allows -/
def rPs (P : List rFr → Nat → Prop) (x : rFr) (r : List rFr) (tn : Nat) : Prop := (∀ x2 r2 Qn2, r = x2 :: r2 → P ((x2.1, x2.2.1, Qn2) :: r2) tn) ∧ (∀ j' Q', x.2.1 < j' → P ((x.1, j', Q') :: r) tn) ∧ ∀ j' Q' tn', tn = tn' + 1 → P ((x.1, j', Q') :: r) tn'
/-- 0x00 and 0x01 -/
theorem ri_0 (h : rFt D B len T F tc mc G z LL AA tt H x r tn y Qn u v w) (hi : y.2.1 = 0) : RZ D B len T F tc mc G z LL AA tt P R (fm_Machine_step fu (u.2.2.1 7 (kF z AA x)) (nI (kF z AA x)) (uF z AA x u)) (mr_st fu w) := by
  have h7 : u.2.2.1 7 (kF z AA x) = nI 0 := by rw [h.2.1.2.2.1.1, if_neg (by omega), hi]
  have h8 : w.1 8 = nI 0 := by rw [h.2.2.2.1.2.2.2.1, if_pos (by omega), hi]
  have e0 : mr_st fu w = some ((), xs_I w 29 1) := by
    unfold mr_st fm_Model_doWays
    simp only [xs_let]
    rw [h8]; rfl
  rw [h7, e0]
  exact rz_trap (t := 1) h.1 h.2.2.1 (by decide) (by decide)
theorem ri_1 (h : rFt D B len T F tc mc G z LL AA tt H x r tn y Qn u v w) (hi : y.2.1 = 1) (hP : rPs P x r tn) : RZ D B len T F tc mc G z LL AA tt P R (fm_Machine_step fu (u.2.2.1 7 (kF z AA x)) (nI (kF z AA x)) (uF z AA x u)) (mr_st fu w) := by
  have h7 : u.2.2.1 7 (kF z AA x) = nI 1 := by rw [h.2.1.2.2.1.1, if_neg (by omega), hi]
  have h8 : w.1 8 = nI 1 := by rw [h.2.2.2.1.2.2.2.1, if_pos (by omega), hi]
  have e0 : mr_st fu w = some ((), w) := by
    unfold mr_st fm_Model_doWays
    simp only [xs_let]
    rw [h8]; rfl
  have hs := h.2.1.2.1
  unfold sq_step at hs
  rw [if_neg (by omega), if_pos hi] at hs
  cases hs
  obtain ⟨f0, q, hQ, hd⟩ := rf_Q h
  obtain ⟨z1, z2, z3, z4, z5⟩ := rf_0 h
  rw [h7, e0]
  exact rz_simple h.1 h.2.1 ⟨f0, f0, q, hQ, hQ, ⟨rfl, rfl, rfl⟩, hd⟩ h.2.2.1 h.2.2.2.2.1 z3 (hP.2.1 _ _ (Nat.lt_succ_self _)) ⟨uF z AA x u, w, rfl, rfl, yf_refl, yf_refl, Or.inl ⟨z1, z2, rf_RS h⟩⟩
/-- 0x0c -/
theorem ri_12 (hfu : 18000 < fu) (h : rFt D B len T F tc mc G z LL AA tt H x r tn y Qn u v w) (hi : y.2.1 = 12) (hP : rPs P x r tn) (hR : ∀ c, r = [] → T[tt x.1]? = some c → R = c.2.2) : RZ D B len T F tc mc G z LL AA tt P R (fm_Machine_step fu (u.2.2.1 7 (kF z AA x)) (nI (kF z AA x)) (uF z AA x u)) (mr_st fu w) := by
  have h7 : u.2.2.1 7 (kF z AA x) = nI 12 := by rw [h.2.1.2.2.1.1, if_neg (by omega), hi]
  have h8 : w.1 8 = nI 12 := by rw [h.2.2.2.1.2.2.2.1, if_pos (by omega), hi]
  have hk : kF z AA x < 8192 := h.2.1.2.2.2.2.2.2.2.1
  obtain ⟨m, m1, m2, -⟩ := h.2.1.2.2.2.2.2.2.1.2.2.2.2.2.2.1 (by rw [hi]; decide +kernel)
  have e0 : mr_st fu w = fm_Model_goOut fu ((w.2.1 0).toInt32) w := by
    unfold mr_st fm_Model_doWays
    simp only [xs_let]
    rw [h8]
    exact xs_id
  have hs := h.2.1.2.1
  unfold sq_step at hs
  rw [if_neg (by omega), if_neg (by omega), if_neg (by omega), if_neg (by omega), if_neg (by omega), if_neg (by omega), if_pos hi, m2, yx_lN (by omega)] at hs
  obtain ⟨ft, hft, hs⟩ := Option.bind_eq_some_iff.mp hs
  obtain ⟨Q1, ht, -⟩ := Option.bind_eq_some_iff.mp hs
  have hdl := yl_lt hft
  have hQ100 : x.2.2.length ≤ 100 := h.1.2.2.1.1.2.2.2.2.2.1.2.2.2.2.1
  have ej : (w.2.1 0).toInt32 = nI m := by
    rw [h.2.2.2.1.1, m2]
    exact sb_nLi (by omega)
  obtain ⟨ft', b1, b2⟩ := h.2.1.2.2.1.2.2.2.2.2.1 (Or.inl hi)
  rw [m2, yx_lN (by omega), hft] at b1
  cases b1
  have e1 : fm_Machine_step fu (nI 12) (nI (kF z AA x)) (uF z AA x u) = fm_Machine_branch fu (nI ft.1.1) (uF z AA x u) := by
    have : fm_Machine_step fu (nI 12) (nI (kF z AA x)) (uF z AA x u) = xs_seq (if nI (kF z AA x) < 0 ∨ 8192 ≤ (nI (kF z AA x)).toNatClampNeg then none else xs_seq (fm_Machine_branch fu ((uF z AA x u).2.2.1 9 (nI (kF z AA x)).toNatClampNeg) (uF z AA x u)) fun _ u8 => some ((), u8)) fun _ u9 => some ((), u9) := rfl
    rw [this, ix8192 hk, nI_clamp (by omega), xs_id, xs_id]
    have : (uF z AA x u).2.2.1 9 (kF z AA x) = nI ft.1.1 := b2
    rw [this]
  obtain ⟨f0, q, hQ, hd⟩ := rf_Q h
  obtain ⟨z1, z2, z3, z4, z5⟩ := rf_0 h
  have hRS : RS T H ((fW LL r ++ LL x.1) ++ sq_f (f0 :: q)) (uF z AA x u) w := by
    have := rf_RS h
    have e : fW LL (x :: r) = (fW LL r ++ LL x.1) ++ sq_f (f0 :: q) := by
      show fW LL r ++ (LL x.1 ++ sq_f x.2.2) = _
      rw [hQ, List.append_assoc]
    rw [e] at this; exact this
  rw [hQ] at ht
  obtain ⟨Y, hY⟩ := RS_lab (d := m) hRS ht hd (rx_lab h.1 hft).1
  rw [h7, e0, e1, ej]
  refine rz_branch (Y := Y) hfu h.1 z4 z5 z1 z2 z3 hft ?_ hP.1 hP.2.1 hP.2.2 hR
  rw [hQ]
  have : fW LL r ++ (LL x.1 ++ (sq_f ((f0 :: q).drop (m + 1)) ++ (Y ++ sb_lab T ft))) = (fW LL r ++ LL x.1) ++ (sq_f ((f0 :: q).drop (m + 1)) ++ (Y ++ sb_lab T ft)) := by rw [List.append_assoc]
  rw [this]; exact hY
end
