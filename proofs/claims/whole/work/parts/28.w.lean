section
variable {α β γ δ σ τ : Type} {B : Nat → Int32} {u v w z u0 u1 : xk_St} {lim p q : Nat} {T : List (Nat × List Nat × List Nat)} {F : List Nat} {G : List (Nat × Nat × Nat × Int64)} {L : List Nat} {n fu tc mc : Nat} {Q Q' Q1 : List sFr} {h : Nat → Nat}
/-- a body, by the class -/
theorem hc_body {f t sz d m : Nat} {c : Nat × List Nat × List Nat} {a : sBo} (hfu : 20000 ≤ fu) (he : yCe T u) (hEn : sEn T F tc mc G u) (hw : sWh h u) (hF : F[f]? = some t) (hc : T[t]? = some c) (h6 : c.1 = 96) (h13 : u.2.2.1 13 f = nI sz) (h7 : u.2.2.1 7 sz = 6) (hloc : ∀ (i : Nat) x, a.2.1[i]? = some x → u.2.2.1 7 (sz + 1 + i) = 8 ∧ u.2.2.1 8 (sz + 1 + i) = nI (yn_c x.1) ∧ u.2.2.2 2 (sz + 1 + i) = lN (yv_h x.2)) (hbd : yk_body u [(sz, none)] (sz + 1 + a.2.1.length) a.2.2) (hm : u.1 8 = nI m) (hm1 : sz + 1 + a.2.1.length + a.2.2.length ≤ m) (hm2 : m ≤ 8192) (hls : ∀ (i : Nat) x, a.2.1[i]? = some x → 0 < x.2 ∧ x.2 ≤ 149 ∧ (x.2 = 1 ∨ x.2 = 2 ∨ 16 ≤ x.2)) (hcode : yp_code B lim d [false] p = .inl (a.2.2, q)) :
    HC (fm_Checker_checkBody fu (nI f) u) (sq_body T F tc mc G sz t c a) (HJ fun L _ v => sBd T F tc mc G h f t sz c a u L v) := by
  have hEn' := hEn
  obtain ⟨n1, n2, n3, -⟩ := hEn'
  obtain ⟨c12, -⟩ := n3 f t hF
  have hfl := yl_lt hF
  obtain ⟨p3, pl, t64, -⟩ := yCe_n he hc
  obtain ⟨b1, b2, b3, b4⟩ := sb_0 hc h6 t64
  unfold fm_Checker_checkBody
  simp only [xs_let]
  rw [hh_ix (by omega), nI_clamp (by omega), hh_ix' (by omega), c12, hh_ix (by omega), nI_clamp (by omega), h13, p3]
  have hu22 : yf_fr [22] [] [] [] u (xs_I u 22 (nI c.2.1.length)) := yf_I yf_refl (by decide)
  obtain ⟨x, n', x1, x2, x3⟩ := hc_pars (fu := fu) (f := f) (sz := sz) (u := xs_I u 22 (nI c.2.1.length)) (yCe_fr he hu22 (by decide)) hc h6 rfl c.2.1.length 0 fu (xs_I u 22 (nI c.2.1.length)) (by omega) (by omega) yf_refl (fun i d hi => by omega)
  have x1 : jb_Checker_checkBody_42 fu fu (nI f) (nI t) (nI sz) 0 (xs_I u 22 (nI c.2.1.length)) = _ := x1
  rw [x1]
  have hxf : yf_fr [22] [] [36] [] u x := yf_trans (yf_mono hu22 (by decide)) (yf_mono x2 (by decide))
  have hx22 : x.1 22 = nI c.2.1.length := x2.1 22 (by decide)
  unfold jb_Checker_checkBody_42
  simp only [xs_let]
  rw [hx22, if_pos (Int32.le_refl _), ix8192 (by omega), nI_clamp (by omega), show (1024 : Int32) + nI t = nI (1024 + t) from nI_add 1024 t]
  -- the outermost block
  generalize hgy : xs_A (xs_I (xs_I x 19 0) 21 0) 8 sz (nI (1024 + t)) = y
  have hyf : yf_fr [19, 21, 22] [] [8, 36] [] u y := by
    rw [← hgy]
    exact yf_A (yf_I (yf_I (yf_mono hxf (by decide)) (by decide)) (by decide)) (by decide)
  have y8 : y.2.2.1 8 = upd (u.2.2.1 8) sz (nI (1024 + t)) := by rw [← hgy, ← hxf.2.2.1 8 (by decide)]; rfl
  have y21 : y.1 21 = 0 := by rw [← hgy]; rfl
  have y19 : y.1 19 = 0 := by rw [← hgy]; rfl
  have y22 : y.1 22 = nI c.2.1.length := by rw [← hgy]; exact hx22
  have y36 : y.2.2.1 36 = x.2.2.1 36 := by rw [← hgy]; rfl
  have hye := yCe_fr he hyf (by decide)
  have hyb : sBt T sz (.inr (lN t)) y := ⟨by rw [y8, ya_t, b3], by omega, b1, b2⟩
  have hyH : sH T [] (xs_I y 20 0) := ⟨y21, by simp, y19, by simp [sq_h], rfl, fun i c hc => by simp [sq_f] at hc, trivial, trivial⟩
  have hop := hc_openPart0 (e := sz) (p := 0) (o := 0) (t := .inr (lN t)) (Q := []) (xx := 0) hye hyb (by rw [hyf.2.2.1 7 (by decide), h7]; rfl) (by decide) (fun f hf => by cases hf) hyH
  unfold sq_body
  have hop2 : sq_open sz 0 0 (.inr (lN t)) [] = some (sq_0 sz t) := rfl
  rw [hop2] at hop
  rcases hop with ⟨Q0, e0, b0, z, f1, f2, f3⟩ | ⟨e0, -⟩
  rotate_left
  · cases e0
  cases e0
  rw [f1, ys_tryl, nI_1]
  -- locals
  have hzf : yf_fr [19, 20, 21, 22] [] [8, 10, 33, 34, 35, 36] [2] u z := yf_trans (yf_mono hyf (by decide)) (yf_mono f3.1 (by decide))
  have z8 : z.2.2.1 8 = upd (u.2.2.1 8) sz (nI (1024 + t)) := (f3.1.2.2.1 8 (by decide)).trans y8
  have z10 : ∀ j, ¬ j = sz → z.2.2.1 10 j = u.2.2.1 10 j := fun j hj => by rw [(f3.2 j hj).1, hyf.2.2.1 10 (by decide)]
  have zb2 : ∀ j, ¬ j = sz → z.2.2.2 2 j = u.2.2.2 2 j := fun j hj => by rw [(f3.2 j hj).2, hyf.2.2.2 2 (by decide)]
  have z21 : z.1 21 = nI 1 := f2.1
  have hze := yCe_fr he hzf (by decide)
  have zLo : sLo T c.2.1 z := by
    refine ⟨?_, by omega, fun k dd hd => ?_⟩
    · rw [f3.1.1 22 (by decide)]; exact y22
    · rw [f3.1.2.2.1 36 (by decide), y36, x3 k dd hd]
      obtain ⟨g1, g2, g3, g4⟩ := yCe_mv he hc hd
      exact ⟨rfl, g1, yvs_of g1 (by omega)⟩
  have hzm : z.1 8 = nI m := (hzf.1 8 (by decide)).trans hm
  have hL := hc_locs (T := T) (u0 := z) (b1 := nI f) (m := m) (fu := fu) (by omega) hze hzm hm2 (by rw [z21]; decide) a.2.1 (sz + 1) c.2.1 z fu yf_refl zLo (fun i xx hx => by
    obtain ⟨q1, q2, q3⟩ := hloc i xx hx
    rw [hzf.2.2.1 7 (by decide), z8, ya_j (by omega), zb2 _ (by omega)]
    exact ⟨q1, q2, q3⟩) hls (by omega) (by omega)
  refine HC_bind hL fun L eL hJ => ?_
  obtain ⟨w, w1, w2, w3⟩ := hJ
  rw [w1]
  have hwf : yf_fr [19, 20, 21, 22] [] [8, 10, 33, 34, 35, 36] [2] u w := yf_trans hzf (yf_mono w3 (by decide))
  have w8 : w.2.2.1 8 = upd (u.2.2.1 8) sz (nI (1024 + t)) := (w3.2.2.1 8 (by decide)).trans z8
  have w10 : w.2.2.1 10 = z.2.2.1 10 := w3.2.2.1 10 (by decide)
  have wb2 : w.2.2.2 2 = z.2.2.2 2 := w3.2.2.2 2 (by decide)
  have hwm : w.1 8 = nI m := (hwf.1 8 (by decide)).trans hm
  have hw7 : w.2.2.1 7 = u.2.2.1 7 := hwf.2.2.1 7 (by decide)
  have hwh : sWh h w := by
    obtain ⟨g1, s, g2, g3, g4⟩ := hw
    refine ⟨g1, s, (hwf.1 8 (by decide)).trans g2, g3, fun k hk h14 => ?_⟩
    rw [hw7] at h14
    have hne : ¬ k = sz := fun y => by rw [y, h7] at h14; exact absurd h14 (by decide)
    rw [w8, ya_j hne, wb2, zb2 k hne]
    exact g4 k hk h14
  have hwH : sH T (sq_0 sz t) w := by
    obtain ⟨i1, i2, i3, i4, i5, i6, i7, i8⟩ := f2
    refine ⟨?_, i2, ?_, i4, ?_, fun i c hc => by simp [sq_f, sq_0] at hc, ⟨sH_P_fr i7.1 w3 (by decide), trivial⟩, i8⟩
    · rw [w3.1 21 (by decide)]; exact i1
    · rw [w3.1 19 (by decide)]; exact i3
    · rw [w3.1 20 (by decide)]; exact i5
  have hwol : sOl w [(sz, none)] (sq_0 sz t) := by
    refine ⟨rfl, ?_, ⟨fun _ => rfl, fun _ => rfl⟩, ?_, by show 0 ∈ [0, 2, 3, 4, 5]; decide, trivial⟩
    · show ¬ (0 : Nat) = 5
      decide
    · show w.2.2.1 7 sz = nI (sh_op 0)
      rw [hw7, h7]; rfl
  have hst : yo_st (w.2.2.1 7) [(sz, none)] = [false] := by
    show [true && decide (w.2.2.1 7 sz = 4)] = [false]
    rw [hw7, h7]
    rfl
  have hR := hc_run (B := B) (lim := lim) (F := F) (tc := tc) (mc := mc) (G := G) (L := L) (T := T) (u0 := w) (h := h) (k0 := sz + 1 + a.2.1.length) (m := m) (b1 := nI f) (fu := fu) (by omega) hwh (yCe_fr he hwf (by decide)) (sEn_fr hEn hwf (by decide)) w2 hwm hm2 a.2.2 (sz + 1 + a.2.1.length) [(sz, none)] (sq_0 sz t) w (fu - a.2.1.length) d p q sG_r hwH hwol (yk_bodyF (fun j hj => ⟨by rw [hw7], by rw [w8, ya_j (by omega)], by rw [wb2, zb2 j (by omega)]⟩) (hwf.2.2.1 9 (by decide)) (hwf.2.2.1 11 (by decide)) (hwf.1 9 (by decide)) hbd) (by rw [hst]; exact hcode) (by omega) (by omega) (fun y hy => by
    rw [List.mem_singleton] at hy
    subst hy
    show sz ≤ sz ∧ sz < _
    omega) (Nat.le_refl _)
  refine HC_bind hR fun Q2 eQ hJ => ?_
  obtain ⟨r, r1, r2, r3, r4⟩ := hJ
  rw [r1]
  unfold jb_Checker_checkBody_139
  have hr22 : r.1 22 = nI L.length := (r3.1.1 22 (by decide)).trans w2.1
  simp only [xs_let]
  rw [hh_ix (by omega), nI_clamp (by omega), hr22]
  have hrf : yf_fr [19, 20, 21, 22] [] [8, 9, 10, 11, 14, 33, 34, 35, 36] [2] u (xs_A r 14 f (nI L.length)) := yf_A (yf_trans (yf_mono hwf (by decide)) (yf_mono r3.1 (by decide))) (by decide)
  have r8 : r.2.2.1 8 = w.2.2.1 8 := r3.1.2.2.1 8 (by decide)
  refine HC_ok ⟨(), _, rfl, hrf, fun j hj => ?_, fun j hj => ?_, fun j hj => ?_, fun i hi => ?_, ?_, ?_, ?_, ?_, ⟨w2.2.1, fun i dd hd => (w2.2.2 i dd hd).2⟩, fun j xx Qj Qn hj hr hs => ?_⟩
  · show r.2.2.1 8 j = _ ∧ r.2.2.1 9 j = _ ∧ r.2.2.1 10 j = _ ∧ r.2.2.2 2 j = _
    obtain ⟨s1, s2, s3⟩ := r3.2.1 j (by omega)
    rw [s1, s2, s3, r8, w8, ya_j (by omega), hwf.2.2.1 9 (by decide), w10, z10 j (by omega), wb2, zb2 j (by omega)]
    exact ⟨rfl, rfl, rfl, rfl⟩
  · show r.2.2.1 8 j = _
    rw [r8, w8, ya_j hj]
  · show r.2.2.1 9 j = _
    rw [r3.2.2.1 j (by rw [hw7]; exact hj), hwf.2.2.1 9 (by decide)]
  · show r.2.2.1 11 i = _
    have hmo := hw.1 sz (sz + 1 + a.2.1.length) (by omega)
    rw [r3.2.2.2 i (by omega), hwf.2.2.1 11 (by decide)]
  · show upd (r.2.2.1 14) f (nI L.length) = _
    rw [r3.1.2.2.1 14 (by decide), hwf.2.2.1 14 (by decide)]
  · show r.2.2.1 8 sz = _
    rw [r8, w8, ya_t]
  · show r.2.2.1 10 sz = _
    obtain ⟨-, s2, -⟩ := r3.2.1 sz (by omega)
    rw [s2, w10]
    exact f2.2.2.2.2.2.2.1.1.2.2.1
  · show r.2.2.2 2 sz = _
    obtain ⟨-, -, s3⟩ := r3.2.1 sz (by omega)
    rw [s3, wb2, f2.2.2.2.2.2.2.1.1.2.2.2.1]
    show lN (sb_res T (.inr (lN t))).length = _
    have : sb_res T (.inr (lN t)) = c.2.2 := by
      unfold sb_res
      show (match T[sb_n (lN t)]? with
        | none => []
        | some c => c.2.2) = c.2.2
      rw [b4, hc]
    rw [this]
  · exact r4 j xx Qj Qn hj hr hs
end
