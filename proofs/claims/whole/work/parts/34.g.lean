section
variable {α β γ δ σ τ : Type} {B : Nat → Int32} {u v w u' v' u0 v0 : xk_St} {T : List (Nat × List Nat × List Nat)} {F : List Nat} {G : List (Nat × Nat × Nat × Int64)} {L : List Nat} {n fu tc mc lim p q len f D k tn tn' j d : Nat} {Q Q' Q1 Qn : List sFr} {z : Nat → Nat} {LL : Nat → List Nat} {AA : Nat → sBo} {tt : Nat → Nat} {a : sBo} {H H' : rH} {fs r : List rFr} {x x' : rFr} {y : Nat × sIn} {ft : sFr} {c : Nat × List Nat × List Nat}
theorem sQb_of (h1 : rSt D B len T F tc mc G z LL AA tt u v) (hf : f < F.length) (hs : sSt T F tc mc G (LL f) (z f) (tt f) (AA f) j Q) : sQb T Q := by
  obtain ⟨-, -, r2, -, -, -, -, -, -, b7⟩ := h1.2.2.2.2.2.2.2 f hf
  by_cases z1 : j ≤ (AA f).2.2.length
  · exact b7 j Q z1 hs
  · refine b7 (AA f).2.2.length Q (Nat.le_refl _) ?_
    unfold sSt at hs ⊢
    rw [List.take_of_length_le (by omega)] at hs
    rw [List.take_length]
    exact hs
theorem sTp_sm (h : sTp Q Q') : ∃ f0 f1 q, Q = f0 :: q ∧ Q' = f1 :: q ∧ sSm f0 f1 := by
  obtain ⟨f0, f1, q, h1, h2, h3⟩ := h
  exact ⟨f0, f1, q, h1, h2, h3⟩
/-- the outermost block of a call -/
theorem rx_outer (h : RX D B len T F tc mc G z LL AA tt H (x :: r) tn u v) : ∃ ft, x.2.2[x.2.2.length - 1]? = some ft ∧ ft.2.1 = 0 ∧ ft.2.2.1 = .inr (lN (tt x.1)) ∧ 0 < x.2.2.length := by
  obtain ⟨y, Qn, hy⟩ := rx_at h
  have hne := h.2.2.1.1.2.2.2.2.2.1.2.1
  have hpos : 0 < x.2.2.length := List.length_pos_iff.mpr hne
  obtain ⟨ft, hft⟩ := yl_get (l := x.2.2) (k := x.2.2.length - 1) (by omega)
  have h0 := ((hy.2.2.1.2.2.1 _ ft hft).2.2).mpr (by omega)
  rcases rx_open h hft with ⟨-, a2, a3, a4⟩ | ⟨k0, x0, st, -, -, a3, -, -, a6, -⟩
  · exact ⟨ft, hft, a3, a4, hpos⟩
  · omega
theorem RS_wd {X l l' : List Nat} (h : RS T H (X ++ l) u v) (hw : yWd T l l') : RS T H (X ++ l') u v := by
  refine RS_re h (by rw [List.length_append, List.length_append, hw.1]) fun i c c' hc hc' => ?_
  by_cases zi : i < X.length
  · rw [List.getElem?_append_left zi] at hc hc'
    rw [hc] at hc'; cases hc'
    exact Or.inl rfl
  · rw [List.getElem?_append_right (by omega)] at hc hc'
    exact hw.2 _ c c' hc hc'
/-- a call ends, on both sides -/
theorem rz_leave {P : List rFr → Nat → Prop} {Y : List Nat} (hfu : 18000 < fu) (h : RX D B len T F tc mc G z LL AA tt H (x :: r) tn u0 v0) (hu : yf_fr [26, 27, 28] [] [37] [10] u0 u) (hv : yf_fr [4, 6, 8, 9, 10, 11, 23, 26, 29] [0, 1] [29] [3] v0 v) (hu7 : u.1 27 = 0) (hv9 : v.1 29 = 0) (hv6 : v.1 6 = 0) (hc : T[tt x.1]? = some c) (h96 : c.1 = 96) (hRS : RS T H (fW LL r ++ (Y ++ c.2.2)) u v) (hP : ∀ x2 r2 Qn2, r = x2 :: r2 → P ((x2.1, x2.2.1, Qn2) :: r2) tn) {R : List Nat} (hR : r = [] → R = c.2.2) : RZ D B len T F tc mc G z LL AA tt P R (fm_Machine_leave fu u) (fm_Model_leave fu v) := by
  obtain ⟨fo, ho1, ho2, ho3, hopos⟩ := rx_outer h
  have h0 := h
  obtain ⟨h1, h2, h3, h4, h5, h6, h7, h8, h9⟩ := h
  have hl : (x :: r).length = r.length + 1 := List.length_cons
  have h60 := h6.2.2.1
  have hF1 := RF_fv hv (by decide) (RF_fu hu (by decide) h3)
  have hs := rSt_fv (rSt_fu h1 hu (by decide)) hv (by decide)
  obtain ⟨a1, a2, a3, a4, a5, a6, a7⟩ := hF1.1
  have hfl := a6.1
  have hF64 := hs.2.1.2.1
  obtain ⟨⟨c', hco⟩, -⟩ := hs.2.2.2.2.2.2.2 x.1 hfl
  have hft : F[x.1]? = some (tt x.1) := hco.1
  have h12 : u.2.2.1 12 x.1 = nI (tt x.1) := (hs.2.1.2.2.1 x.1 (tt x.1) hft).1
  have htl := yl_lt hc
  have hT64 := hs.1.1.2.1
  have hty := (hs.1.1.2.2 (tt x.1) c hc).1
  have hres16 := (hs.1.2.1.2 (tt x.1) c hc).2.1 h96
  have h4t : u.2.2.1 4 (tt x.1) = nI c.2.2.length := by
    rw [hty.2.2.1, if_pos h96, yn_cs (by omega)]
  have hV := fV_le hF1.2
  have hN := fN_le hs hF1.2
  have hlab : sb_lab T fo = c.2.2 := by
    unfold sb_lab
    rw [if_neg (by omega), ho3]
    show (match T[sb_n (lN (tt x.1))]? with
      | none => []
      | some c => c.2.2) = c.2.2
    rw [sb_nL (by omega), hc]
  obtain ⟨w1, w2, w3, w4⟩ := a5 _ fo ho1
  rw [show fV r + (x.2.2.length - 1 - (x.2.2.length - 1)) = fV r by omega, hlab] at w1
  -- the values come down
  have u24 : u.1 24 = nI (r.length + 1) := by rw [hu.1 24 (by decide), h6.1, hl]
  have v27 : v.1 27 = nI (r.length + 1) := by rw [hv.1 27 (by decide), h6.2.1, hl]
  have hRS1 : RS T H (fW LL r ++ (Y ++ c.2.2)) (xs_I u 24 (nI r.length)) (xs_I v 27 (nI r.length)) := RS_fv (RS_fu hRS (yf_I (I := [24]) (J := []) (A := []) (B := []) yf_refl (by decide)) (by decide)) (yf_I (I := [27]) (J := []) (A := []) (B := []) yf_refl (by decide)) (by decide)
  obtain ⟨us, vs, s1, s2, s3, s4, s5⟩ := RS_slide hfu hRS1
  rw [fW_len] at s1 s2
  have hclass : fm_Machine_leave fu u = (if nI r.length ≤ 0 then some ((), xs_I us 26 (us.2.2.1 50 r.length)) else if nI r.length - 1 < 0 ∨ 60 ≤ (nI r.length - 1).toNatClampNeg then none else if nI r.length - 1 < 0 ∨ 60 ≤ (nI r.length - 1).toNatClampNeg then none else if us.2.2.1 48 (nI r.length - 1).toNatClampNeg < 0 ∨ 65 ≤ (us.2.2.1 48 (nI r.length - 1).toNatClampNeg).toNatClampNeg then none else some ((), xs_I (xs_I us 26 (us.2.2.1 50 r.length)) 25 (us.2.2.1 49 (nI r.length - 1).toNatClampNeg + us.2.2.1 14 (us.2.2.1 48 (nI r.length - 1).toNatClampNeg).toNatClampNeg))) := by
    unfold fm_Machine_leave
    simp only [xs_let]
    rw [u24, nI_pred]
    have e1 : (xs_I u 24 (nI r.length)).1 24 = nI r.length := rfl
    have e2 : (xs_I u 24 (nI r.length)).2.2.1 48 r.length = nI x.1 := a1
    have e3 : (xs_I u 24 (nI r.length)).2.2.1 12 x.1 = nI (tt x.1) := h12
    have e4 : (xs_I u 24 (nI r.length)).2.2.1 4 (tt x.1) = nI c.2.2.length := h4t
    have e5 : (xs_I u 24 (nI r.length)).2.2.1 49 r.length = nI (fN LL r) := a2
    have e6 : us.1 24 = nI r.length := s3.1 24 (by decide)
    rw [e1, if_neg (nI_in (N := 60) (by omega) (by decide)), nI_clamp (by omega), e2, if_neg (nI_in (N := 65) (by omega) (by decide)), nI_clamp (by omega), e3, if_neg (nI_in (N := 65) (by omega) (by decide)), nI_clamp (by omega), if_neg (show ¬ (nI r.length < 0 ∨ 60 ≤ r.length) from fun y => y.elim (nI_pos (by omega)) (by omega)), e4, e5, s1, ys_seq, e6, if_neg (nI_in (N := 60) (by omega) (by decide)), nI_clamp (by omega)]
    have e7 : (xs_I us 26 (us.2.2.1 50 r.length)).1 24 = nI r.length := e6
    rw [e7]
    rfl
  have hmodel : fm_Model_leave fu v = some ((), xs_I (xs_I vs 28 (nI (fV r))) 4 (vs.2.2.1 30 r.length)) := by
    unfold fm_Model_leave
    simp only [xs_let]
    rw [v27, nI_pred]
    have e1 : (xs_I v 27 (nI r.length)).1 27 = nI r.length := rfl
    have e2 : (xs_I v 27 (nI r.length)).2.2.1 32 r.length = nI (fV r) := a4
    have e3 : (xs_I v 27 (nI r.length)).2.2.1 34 (fV r) = nI c.2.2.length := w1
    have e4 : (xs_I v 27 (nI r.length)).2.2.1 31 r.length = nI (fN LL r) := a3
    have e5 : vs.1 27 = nI r.length := s4.1 27 (by decide)
    have e6 : vs.2.2.1 32 r.length = nI (fV r) := by rw [s4.2.2.1 32 (by decide)]; exact a4
    rw [e1, if_neg (nI_in (N := 61) (by omega) (by decide)), nI_clamp (by omega), e2, if_neg (nI_in (N := 6200) (by omega) (by decide)), nI_clamp (by omega), if_neg (show ¬ (nI r.length < 0 ∨ 61 ≤ r.length) from fun y => y.elim (nI_pos (by omega)) (by omega)), e3, e4, s2, ys_seq, e5, if_neg (nI_in (N := 61) (by omega) (by decide)), nI_clamp (by omega), e6]
    have e7 : (xs_I vs 28 (nI (fV r))).1 27 = nI r.length := e5
    rw [e7, if_neg (nI_in (N := 61) (by omega) (by decide)), nI_clamp (by omega)]
    rfl
  rw [hclass, hmodel]
  have hU : yf_fr [24, 26, 27, 28] [] [37] [10] u0 us := yf_trans (yf_mono hu (by decide)) (yf_trans (yf_I yf_refl (by decide)) (yf_mono s3 (by decide)))
  have hVv : yf_fr [4, 6, 8, 9, 10, 11, 23, 26, 27, 29] [0, 1] [29] [3] v0 vs := yf_trans (yf_mono hv (by decide)) (yf_trans (yf_I yf_refl (by decide)) (yf_mono s4 (by decide)))
  cases r with
  | nil =>
    rw [if_pos (show nI ([] : List rFr).length ≤ 0 by decide)]
    have hU2 : yf_fr [24, 26, 27, 28] [] [37] [10] u0 (xs_I us 26 (us.2.2.1 50 ([] : List rFr).length)) := yf_I hU (by decide)
    have hV2 : yf_fr [4, 6, 8, 9, 10, 11, 23, 26, 27, 28, 29] [0, 1] [29] [3] v0 (xs_I (xs_I vs 28 (nI (fV []))) 4 (vs.2.2.1 30 ([] : List rFr).length)) := yf_I (yf_I (yf_mono hVv (by decide)) (by decide)) (by decide)
    refine ⟨_, _, rfl, rfl, Or.inr (Or.inr ⟨H, tn, ?_, ?_, ?_, ?_, ?_, rl_fr h0 hU2 (by decide) hV2 (by decide)⟩)⟩
    · show us.1 27 = 0
      rw [s3.1 27 (by decide)]; exact hu7
    · show vs.1 29 = 0
      rw [s4.1 29 (by decide)]; exact hv9
    · show us.1 24 = 0
      rw [s3.1 24 (by decide)]; rfl
    · show vs.1 27 = 0
      rw [s4.1 27 (by decide)]; rfl
    · rw [hR rfl]
      exact RS_fv (RS_fu s5 (yf_I (I := [26]) (J := []) (A := []) (B := []) yf_refl (by decide)) (by decide)) (yf_I (I := [4, 28]) (J := []) (A := []) (B := []) (yf_I yf_refl (by decide)) (by decide)) (by decide)
  | cons x2 r2 =>
    have hl2 : (x2 :: r2).length = r2.length + 1 := List.length_cons
    obtain ⟨⟨c2, ps, Qn2, k1, kw, k2, k3⟩, k4⟩ := h4
    rw [hc] at k1; cases k1
    obtain ⟨b1, b2, b3, b4, b5, b6, b7⟩ := hF1.2.1
    obtain ⟨a71, a72⟩ := a7 x2 r2 rfl
    obtain ⟨⟨c3, hco2⟩, -⟩ := hs.2.2.2.2.2.2.2 x2.1 b6.1
    have h14 : u.2.2.1 14 x2.1 = nI (LL x2.1).length := hco2.2.2.2.2.2.2.2.2.1
    have q48 : us.2.2.1 48 r2.length = nI x2.1 := by rw [s3.2.2.1 48 (by decide)]; exact b1
    have q49 : us.2.2.1 49 r2.length = nI (fN LL r2) := by rw [s3.2.2.1 49 (by decide)]; exact b2
    have q14 : us.2.2.1 14 x2.1 = nI (LL x2.1).length := by rw [s3.2.2.1 14 (by decide)]; exact h14
    have hx2F := b6.1
    rw [if_neg (show ¬ nI (x2 :: r2).length ≤ 0 from fun y => by have := (nI_leI (b := 0) (by omega) (by decide)).mp y; omega), hl2, nI_pred, if_neg (nI_in (N := 60) (by omega) (by decide)), if_neg (nI_in (N := 60) (by omega) (by decide)), nI_clamp (by omega), q48, if_neg (nI_in (N := 65) (by omega) (by decide)), nI_clamp (by omega), q49, q14, nI_add, ← hl2]
    have hU2 : yf_fr [24, 25, 26, 27, 28] [] [37] [10] u0 (xs_I (xs_I us 26 (us.2.2.1 50 (x2 :: r2).length)) 25 (nI (fN LL r2 + (LL x2.1).length))) := yf_I (yf_I (yf_mono hU (by decide)) (by decide)) (by decide)
    have hV2 : yf_fr [4, 6, 8, 9, 10, 11, 23, 26, 27, 28, 29] [0, 1] [29] [3] v0 (xs_I (xs_I vs 28 (nI (fV (x2 :: r2)))) 4 (vs.2.2.1 30 (x2 :: r2).length)) := yf_I (yf_I (yf_mono hVv (by decide)) (by decide)) (by decide)
    have hL := rl_fr h0 hU2 (by decide) hV2 (by decide)
    have hne2 : ¬ x2.2.2 = [] := b6.2.1
    obtain ⟨f0, f1, q, e1, e2, e3⟩ := sTp_sm (sTp_pushes hne2 k2)
    have hF3 := RF_fv (u := xs_I (xs_I us 26 (us.2.2.1 50 (x2 :: r2).length)) 25 (nI (fN LL r2 + (LL x2.1).length))) hV2 (by decide) (RF_fu hU2 (by decide) h3.2)
    obtain ⟨g1, g2, g3, g4, g5, g6, g7⟩ := hF3.1
    refine ⟨_, _, rfl, rfl, Or.inl ⟨H, (x2.1, x2.2.1, Qn2) :: r2, tn, ⟨hL.1, ?_, ⟨⟨g1, g2, g3, g4, ?_, ⟨g6.1, ?_, ?_, sQb_of hs g6.1 k3⟩, g7⟩, hF3.2⟩, ?_, hL.2.1, ⟨?_, ?_, ?_, ?_⟩, hL.2.2, ⟨?_, ?_, ?_, ?_⟩, fun x3 r3 e => ?_⟩, hP x2 r2 Qn2 rfl⟩⟩
    · have hW : fW LL ((x2.1, x2.2.1, Qn2) :: r2) = fW LL (x2 :: r2) ++ ps := by
        have : sq_f Qn2 = sq_f x2.2.2 ++ ps := by
          rw [e1] at k2 ⊢
          rw [sq_pushesS k2]
          show sq_f q ++ (ps.reverse ++ f0.2.2.2.2).reverse = (sq_f q ++ f0.2.2.2.2.reverse) ++ ps
          rw [List.reverse_append, List.reverse_reverse, List.append_assoc]
        show fW LL r2 ++ (LL x2.1 ++ sq_f Qn2) = (fW LL r2 ++ (LL x2.1 ++ sq_f x2.2.2)) ++ ps
        rw [this]
        simp only [List.append_assoc]
      rw [hW]
      exact RS_fv (RS_fu (RS_wd s5 kw) (yf_I (I := [25, 26]) (J := []) (A := []) (B := []) (yf_I yf_refl (by decide)) (by decide)) (by decide)) (yf_I (I := [4, 28]) (J := []) (A := []) (B := []) (yf_I yf_refl (by decide)) (by decide)) (by decide)
    · show rW T z AA x2.1 Qn2 (fV r2) (fN LL r2 + (LL x2.1).length) _
      rw [e1] at g5
      rw [e2]
      exact rW_tp g5 e3
    · show ¬ Qn2 = []
      rw [e2]; exact fun y => by cases y
    · intro d g hd
      have hd : Qn2[d]? = some g := hd
      rw [e1] at k2
      rw [sq_pushesS k2] at hd
      cases d with
      | zero =>
        cases hd
        exact g6.2.2.1 0 f0 (by rw [e1]; rfl)
      | succ d => exact g6.2.2.1 (d + 1) g (by rw [e1]; exact hd)
    · cases r2 with
      | nil => exact trivial
      | cons x4 r4 => exact ⟨k4.1, k4.2⟩
    · show us.1 24 = _
      rw [s3.1 24 (by decide)]; rfl
    · show vs.1 27 = _
      rw [s4.1 27 (by decide)]; rfl
    · show r2.length + 1 ≤ 60
      omega
    · show nI (fV r2 + x2.2.2.length) = nI (fV r2 + Qn2.length)
      rw [e1, e2, List.length_cons, List.length_cons]
    · show us.1 27 = 0
      rw [s3.1 27 (by decide)]; exact hu7
    · show vs.1 29 = 0
      rw [s4.1 29 (by decide)]; exact hv9
    · show vs.1 6 = 0
      rw [s4.1 6 (by decide)]; exact hv6
    · show vs.1 5 = nI len
      rw [hVv.1 5 (by decide)]; exact h8.2.2.2
    · cases e
      refine ⟨?_, rfl, ?_, k3⟩
      · show us.2.2.1 50 (x2 :: r2).length = _
        rw [s3.2.2.1 50 (by decide)]; exact a71
      · show vs.2.2.1 30 (x2 :: r2).length = _
        rw [s4.2.2.1 30 (by decide)]; exact a72
end
