section
variable {α β γ δ σ τ : Type} {B : Nat → Int32} {u v w u' v' u0 v0 u1 v1 uh um : xk_St} {T : List (Nat × List Nat × List Nat)} {F : List Nat} {G : List (Nat × Nat × Nat × Int64)} {n fu p q k j d b g m i t tc mc D f tn s l : Nat} {H H' : rH} {l7 : List ((Nat × Nat) × Nat × Nat)} {c : Nat × List Nat × List Nat} {b1 b3 b4 b5 a1 : Int32}
/-- a call that is allowed, by both -/
theorem ca_all (hfu : 2 ^ 46 < fu) (htn : tn < 2 ^ 31) (h : rRel uh um) : ∃ r u' v', fm_House_call fu (nI tn) uh = some (.inl r, u') ∧ fm_Model_call fu (nI tn) um = some (r, v') ∧ v'.1 0 = 0 ∧ rRel u' v' := by
  obtain ⟨hB, hI⟩ := id h
  obtain ⟨⟨b0, b1, b2, b3⟩, ⟨nl, n1, n2, n3⟩, ⟨g, g1, g2, g3, g4⟩, -, t3, t28, t26, tF, tM⟩ := hB
  obtain ⟨u5, hu5⟩ : ∃ x, x = xs_I (xs_I (xs_I uh 0 0) 1 0) 2 0 := ⟨_, rfl⟩
  obtain ⟨v7, hv7⟩ : ∃ x, x = xs_I (xs_I (xs_I (xs_I um 0 0) 1 0) 2 0) 31 0 := ⟨_, rfl⟩
  have fu5 : yf_fr [0, 1, 2] [] [] [] uh u5 := by rw [hu5]; exact yf_I (yf_I (yf_I yf_refl (by decide)) (by decide)) (by decide)
  have fv7 : yf_fr [0, 1, 2, 31] [] [] [] um v7 := by rw [hv7]; exact yf_I (yf_I (yf_I (yf_I yf_refl (by decide)) (by decide)) (by decide)) (by decide)
  have u50 : u5.1 0 = 0 := by rw [hu5]; rfl
  have u51 : u5.1 1 = 0 := by rw [hu5]; rfl
  have u52 : u5.1 2 = 0 := by rw [hu5]; rfl
  have v70 : v7.1 0 = 0 := by rw [hv7]; rfl
  have v71 : v7.1 1 = 0 := by rw [hv7]; rfl
  have v72 : v7.1 2 = 0 := by rw [hv7]; rfl
  have v731 : v7.1 31 = 0 := by rw [hv7]; rfl
  have eH : fm_House_call fu (nI tn) uh = if (u5.1 4) = (0 : Int32) then (some (.inl (-1 : Int32), u5)) else ((xs_seq (fm_House_functionNamed fu (nI nl) u5) fun a6 u7 => if a6 = (-1 : Int32) then (some (.inl (-2 : Int32), u7)) else ((if a6 < 0 ∨ 65 ≤ a6.toNatClampNeg then none else xs_let (u7.2.2.1 12 a6.toNatClampNeg) fun a8 => xs_seq (fm_House_takes fu a8 (nI g) u7) fun a9 u10 => if a9 = (0 : Int32) then (some (.inl (-3 : Int32), u10)) else ((xs_seq (fm_House_layArguments fu a8 (nI g) u10) fun _ u11 => xs_seq (fm_Machine_run fu a6 (nI tn) u11) fun a12 u13 => xs_let (xs_I u13 3 (u13.1 23)) fun u14 => if a12 = (0 : Int32) then ((xs_seq (fm_House_keepResults fu a8 u14) fun _ u16 => jb_House_call_131 fu a12 u16)) else (jb_House_call_131 fu a12 u14))))))) := by
    unfold fm_House_call
    rw [if_pos (show (0 : Int32) ≤ nI tn from nI_le (a := 0) (by omega) (by omega)), xl_eq, xl_eq, xl_eq, xl_eq, xl_eq, n2, g2, ← hu5]
  have eM : fm_Model_call fu (nI tn) um = if (v7.1 25) = (0 : Int32) then (some ((-1 : Int32), v7)) else ((xs_seq (fm_Model_exportNamed fu (nI nl) v7) fun a8 u9 => if a8 < (0 : Int32) then (some ((-2 : Int32), u9)) else ((if a8 < 0 ∨ 64 ≤ a8.toNatClampNeg then none else if (u9.2.2.1 18 a8.toNatClampNeg) = (0 : Int32) then ((if a8 < 0 ∨ 64 ≤ a8.toNatClampNeg then none else if (u9.2.2.1 19 a8.toNatClampNeg) < 0 ∨ 64 ≤ (u9.2.2.1 19 a8.toNatClampNeg).toNatClampNeg then none else xs_let (u9.2.2.1 9 (u9.2.2.1 19 a8.toNatClampNeg).toNatClampNeg) fun a10 => if a10 < 0 ∨ 64 ≤ a10.toNatClampNeg then none else if (u9.2.2.1 5 a10.toNatClampNeg) = (nI g) then (jb_Model_call_108 fu (nI tn) (nI g) a8 a10 (1 : Int32) u9) else (jb_Model_call_108 fu (nI tn) (nI g) a8 a10 (0 : Int32) u9))) else (some ((-2 : Int32), u9)))))) := by
    unfold fm_Model_call jb_Model_call_10
    have w1 : (xs_I um 0 0).1 1 = nI nl := n3
    have w2 : (xs_I um 0 0).1 2 = nI g := g3
    rw [if_pos (show (0 : Int32) ≤ nI tn from nI_le (a := 0) (by omega) (by omega)), mf_fails0, ys_seq, if_pos rfl, xl_eq, xl_eq, xl_eq, xl_eq, xl_eq, w1, w2, ← hv7]
  have rest0 : rRel u5 v7 := by
    refine ⟨⟨⟨by rw [fu5.2.2.1 0 (by decide), fv7.2.2.1 0 (by decide)]; exact b0, by rw [fu5.2.2.1 1 (by decide), fv7.2.2.1 1 (by decide)]; exact b1, by rw [fu5.2.2.1 0 (by decide)]; exact b2, by rw [fu5.2.2.1 1 (by decide)]; exact b3⟩, ⟨0, by decide, u50, v71⟩, ⟨0, by decide, u51, v72, fun i hi => by omega⟩, ⟨0, by decide, u52, v731, fun i hi => by omega⟩, by rw [fu5.1 3 (by decide), fv7.1 30 (by decide)]; exact t3, by rw [fu5.1 28 (by decide)]; exact t28, by rw [fv7.1 26 (by decide)]; exact t26, hFr_fr tF fu5 (by decide), hMz_fr tM fu5 (by decide)⟩, ?_⟩
    rcases hI with ⟨x1, x2⟩ | ⟨x1, x2, x3⟩
    · exact Or.inl ⟨by rw [fu5.1 4 (by decide)]; exact x1, by rw [fv7.1 25 (by decide)]; exact x2⟩
    · exact Or.inr ⟨by rw [fu5.1 4 (by decide)]; exact x1, by rw [fv7.1 25 (by decide)]; exact x2, rIn_f x3 fu5 (by decide) fv7 (by decide)⟩
  rw [eH, eM]
  rcases rest0.2 with ⟨x1, x2⟩ | ⟨x1, x2, hIn⟩
  · rw [if_pos x1, if_pos x2]
    exact ⟨-1, u5, v7, rfl, rfl, v70, rest0⟩
  rw [if_neg (show ¬ u5.1 4 = 0 by rw [x1]; decide), if_neg (show ¬ v7.1 25 = 0 by rw [x2]; decide)]
  obtain ⟨D, B, n, T, F, tc, mc, G, l7, z, LL, AA, tt, H, hSt, hRD, hA1, hEx, hFt⟩ := hIn
  unfold fm_House_functionNamed fm_Model_exportNamed
  have hl64 : l7.length ≤ 64 := hEx.2.2.1
  have hnm := nm_both (fu := fu) n1 (by omega) hEx rest0.1.1.1 rest0.1.1.2.1 l7.length 0 fu fu (by omega) (by omega) (by omega)
  rw [show nI 0 = (0 : Int32) from rfl] at hnm
  rcases hnm with ⟨p1, p2⟩ | ⟨k, a, hk, p1, p2⟩
  · rw [p1, p2, ys_seq, ys_seq, if_pos rfl, if_pos (by decide)]
    exact ⟨-2, u5, v7, rfl, rfl, v70, rest0⟩
  have hk64 := yl_lt hk
  obtain ⟨z1, z2, z3, z4⟩ := hEx.2.2.2 k a hk
  obtain ⟨y18, y19⟩ := hEx.2.1.2.2 k a hk
  rw [p1, p2, ys_seq, ys_seq, if_neg (show ¬ nI k < (0 : Int32) from fun t => nI_inc (k := k) (N := 100) (by omega) (by decide) (Or.inl t)), ix64 (by omega), ix64 (by omega), show (nI k).toNatClampNeg = k from nI_clamp (by omega), y18, y19]
  by_cases q0 : a.2.1 = 0
  case neg =>
    rw [if_neg q0, if_pos rfl, if_neg (show ¬ nI a.2.1 = (0 : Int32) from fun t => q0 ((nI_eq (b := 0) (by omega) (by decide)).mp t))]
    exact ⟨-2, u5, v7, rfl, rfl, v70, rest0⟩
  have hfl := z3 q0
  obtain ⟨f, hf⟩ : ∃ f, f = a.2.2 := ⟨_, rfl⟩
  rw [← hf] at z2 hfl
  obtain ⟨t, ht⟩ : ∃ t, F[f]? = some t := ⟨_, List.getElem?_eq_getElem hfl⟩
  have htt : tt f = t := by
    rcases hFt f with y | y
    · exact Option.some.inj (y.symm.trans ht)
    · omega
  obtain ⟨h12, c, hc, h96⟩ := hSt.2.1.2.2.1 f t ht
  obtain ⟨h9, -⟩ := hSt.2.2.2.1.2.2.1 f t ht
  obtain ⟨e3, e16, et64, er⟩ := yCe_n hSt.1 hc
  obtain ⟨e4, er16⟩ := er h96
  have h5 := (hSt.2.2.1.2.2.1 t c (yl_lt hc) hc).1.2.1
  have hne1 : ¬ nI f = (-1 : Int32) := fun t => by have := congrArg Int32.toInt t; rw [pkT32 (by omega)] at this; have : (f : Int) = -1 := this; omega
  rw [if_pos q0, ← hf, if_neg hne1, ix65 (k := f) (by omega), if_pos (show nI a.2.1 = (0 : Int32) by rw [q0]; rfl), ix64 (k := f) (by omega), show (nI f).toNatClampNeg = f from nI_clamp (by omega), h12, h9, xl_eq, xl_eq, ix64 (k := t) et64, show (nI t).toNatClampNeg = t from nI_clamp (by omega), h5]
  unfold fm_House_takes jb_Model_call_108
  rw [ix65 (k := t) (by omega), show (nI t).toNatClampNeg = t from nI_clamp (by omega), e3]
  by_cases qg : nI c.2.1.length = nI g
  case neg =>
    have e0 : jb_Model_call_113 fu fu (nI tn) (nI g) (nI k) (nI t) 0 0 v7 = some (-3, v7) := tk_m0 hSt.2.2.1 hc c.2.1.length 0 fu (by omega) (by omega)
    rw [if_neg qg, if_neg qg, ys_seq, if_pos rfl, e0]
    exact ⟨-3, u5, v7, rfl, rfl, v70, rest0⟩
  have hgl : g = c.2.1.length := ((nI_eq (by omega) (by omega)).mp qg).symm
  subst hgl
  rw [if_pos rfl, if_pos rfl]
  have hk1 := tk_h (fu := fu) hSt.1 hc c.2.1.length 0 fu (by omega) (by omega)
  have hk2 := tk_m (fu := fu) (b1 := nI tn) (b3 := nI c.2.1.length) (b4 := nI k) hSt.2.2.1 hc h96 c.2.1.length 0 fu (by omega) (by omega)
  rw [show nI 0 = (0 : Int32) from rfl] at hk1 hk2
  rcases hk1 with ⟨j1, j2⟩ | ⟨j1, x, d, j2, j3, j4⟩
  case inr =>
    rcases hk2 with ⟨m1, m2⟩ | ⟨m1, -⟩
    · have := m2 x d j2 j3; omega
    · rw [j1, m1, ys_seq, if_pos rfl]
      exact ⟨-3, u5, v7, rfl, rfl, v70, rest0⟩
  rcases hk2 with ⟨m1, -⟩ | ⟨-, x, d, m2, m3, m4⟩
  case inr => have := j2 x d m2 m3; omega
  rw [j1, m1, ys_seq, if_neg (show ¬ (1 : Int32) = 0 by decide)]
  have hRS0 : RS T H (c.2.1.take 0) u5 v7 := ⟨rest0.1.2.2.2.2.2.1, rest0.1.2.2.2.2.2.2.1, Nat.zero_le _, (fun i c hc => by cases hc)⟩
  obtain ⟨ua, va, r1, r2, fa, fva, hRSa⟩ := la_both (fu := fu) (b1 := nI tn) (b4 := nI k) hSt.1 hSt.2.2.1 hc h96 j2 (fun i hi => by rw [fu5.2.2.2 0 (by decide), fv7.2.2.2 0 (by decide)]; exact g4 i hi) c.2.1.length 0 fu fu u5 v7 (by omega) (by omega) (by omega) yf_refl yf_refl hRS0
  have r1' : fm_House_layArguments fu (nI t) (nI c.2.1.length) u5 = some ((), ua) := r1
  have r2' : jb_Model_call_173 fu fu (nI tn) (nI c.2.1.length) (nI k) (nI t) 0 v7 = _ := r2
  have fvb : yf_fr [26, 29] [] [29] [3] v7 (xs_I va 29 0) := yf_I (yf_mono fva (by decide)) (by decide)
  have w19 : (xs_I va 29 0).2.2.1 19 k = nI f := by rw [fvb.2.2.1 19 (by decide), y19, hf]
  rw [r1', ys_seq, r2', xl_eq, ix64 (by omega), show (nI k).toNatClampNeg = k from nI_clamp (by omega), w19, nI_toL htn]
  have hSta : rSt D B n T F tc mc G z LL AA tt ua (xs_I va 29 0) := rSt_fv (rSt_fu hSt fa (by decide)) fvb (by decide)
  have hRDa : RD T F tc H G ua (xs_I va 29 0) := RD_fv (RD_fu hRD fa (by decide)) fvb (by decide)
  have hRSb : RS T H c.2.1 ua (xs_I va 29 0) := RS_fv hRSa (show yf_fr [29] [] [] [] va (xs_I va 29 0) from yf_I yf_refl (by decide)) (by decide)
  obtain ⟨ur, vr, s1, s2, s3⟩ := rn_run (fu := fu) (f := f) (tn := tn) hfu hSta hRDa hfl (by rw [htt]; exact hc) hRSb rfl htn
  obtain ⟨v2, rr, o1, o2, o3, o4, o5, o6, o7, o8, o9⟩ := mr_149 (fu := fu) (by omega) er16 s3
  have hfm : fm_Model_run fu (nI f) (lN tn) (xs_I va 29 0) = some ((), v2) := s2.trans o1
  have hfu' := yf_fm_Machine_run _ _ s1
  have hfv2 := yf_fm_Model_run _ _ hfm
  have hcode : ur.1 27 = v2.1 29 := by
    obtain ⟨H0, tn0, hL0, he⟩ := s3
    rw [o4]
    rcases he with ⟨t, -, -, t2, t3⟩ | ⟨t1, t2, -⟩
    · rw [t2, t3]
    · rw [t1, t2]
  obtain ⟨H2, tn2, hL, -⟩ := s3
  have fr5 : yf_fr [23, 24, 25, 26, 27, 28, 30, 31, 32, 33] [] [37, 38, 39, 40, 41, 42, 43, 44, 45, 46, 48, 49, 50] [10, 11, 12] u5 ur := yf_trans (yf_mono fa (by decide)) hfu'
  have fr7 : yf_fr [4, 5, 6, 8, 9, 10, 11, 16, 23, 26, 27, 28, 29, 30, 31, 32, 33, 34] [0, 1, 2] [27, 29, 30, 31, 32, 33, 34, 35, 36, 37, 38, 39, 40, 41, 42] [2, 3, 4, 5] v7 v2 := yf_trans (yf_mono fvb (by decide)) hfv2
  have rest : ∀ (uf : xk_St), yf_fr [2, 3, 28] [] [] [1] ur uf → (∃ r, r ≤ 16 ∧ uf.1 2 = nI r ∧ v2.1 31 = nI r ∧ ∀ i, i < r → uf.2.2.2 1 i = v2.2.2.2 4 i) → uf.1 3 = v2.1 30 → uf.1 28 = 0 → rRel uf v2 := by
    intro uf hx y1 y2 y3
    have ff : yf_fr [2, 3, 23, 24, 25, 26, 27, 28, 30, 31, 32, 33] [] [37, 38, 39, 40, 41, 42, 43, 44, 45, 46, 48, 49, 50] [1, 10, 11, 12] u5 uf := yf_trans (yf_mono fr5 (by decide)) (yf_mono hx (by decide))
    have hRDf : RD T F tc H2 G uf v2 := RD_fv (RD_fu hL.2.1 hx (by decide)) o9 (by decide)
    refine ⟨⟨⟨?_, ?_, ?_, ?_⟩, ⟨0, by decide, ?_, ?_⟩, ⟨0, by decide, ?_, ?_, fun i hi => by omega⟩, y1, y2, y3, o2, hFr_of hRDf.1, hMz_of hRDf.2.2.1⟩, Or.inr ⟨?_, ?_, D, B, n, T, F, tc, mc, G, l7, z, LL, AA, tt, H2, rSt_fv (rSt_fu hL.1 hx (by decide)) o9 (by decide), hRDf, ?_, rEx_f hEx ff (by decide) fr7 (by decide), hFt⟩⟩
    · rw [ff.2.2.1 0 (by decide), fr7.2.2.1 0 (by decide)]; exact rest0.1.1.1
    · rw [ff.2.2.1 1 (by decide), fr7.2.2.1 1 (by decide)]; exact rest0.1.1.2.1
    · rw [ff.2.2.1 0 (by decide)]; exact rest0.1.1.2.2.1
    · rw [ff.2.2.1 1 (by decide)]; exact rest0.1.1.2.2.2
    · rw [ff.1 0 (by decide)]; exact u50
    · rw [fr7.1 1 (by decide)]; exact v71
    · rw [ff.1 1 (by decide)]; exact u51
    · rw [fr7.1 2 (by decide)]; exact v72
    · rw [ff.1 4 (by decide)]; exact x1
    · rw [fr7.1 25 (by decide)]; exact x2
    · rw [ff.2.2.1 1 (by decide)]; exact hA1
  have v20 : v2.1 0 = 0 := by rw [fr7.1 0 (by decide)]; exact v70
  rw [s1, ys_seq, hfm, ys_seq, xl_eq, ← hcode]
  by_cases q27 : ur.1 27 = 0
  · rw [if_pos q27]
    obtain ⟨o81, o82⟩ := o8 q27
    have hA4 : (xs_I ur 3 (ur.1 23)).2.2.1 4 t = nI c.2.2.length := by
      show ur.2.2.1 4 t = _
      rw [fr5.2.2.1 4 (by decide)]; exact e4
    obtain ⟨uk, k1, k2, k3⟩ := hk_18 (fu := fu) (R := c.2.2) (u0 := xs_I (xs_I ur 3 (ur.1 23)) 2 (nI c.2.2.length)) er16 c.2.2.length 0 fu (xs_I (xs_I ur 3 (ur.1 23)) 2 (nI c.2.2.length)) (by omega) (by omega) rfl yf_refl (fun x hx => by omega)
    have hkr : fm_House_keepResults fu (nI t) (xs_I ur 3 (ur.1 23)) = some ((), uk) := by
      unfold fm_House_keepResults
      rw [ix65 (by omega), show (nI t).toNatClampNeg = t from nI_clamp (by omega), hA4, xl_eq]
      exact k1
    rw [hkr, ys_seq]
    unfold jb_House_call_131
    rw [xl_eq]
    have hx : yf_fr [2, 3, 28] [] [] [1] ur (xs_I uk 28 0) := yf_I (yf_trans (yf_I (yf_I yf_refl (by decide)) (by decide)) (yf_mono k2 (by decide))) (by decide)
    refine ⟨_, _, v2, rfl, rfl, v20, rest _ hx ⟨c.2.2.length, er16, ?_, by rw [o6, o81], fun i hi => ?_⟩ ?_ rfl⟩
    · show uk.1 2 = _
      rw [k2.1 2 (by decide)]; rfl
    · show uk.2.2.2 1 i = _
      obtain ⟨cc, hcc⟩ : ∃ cc, c.2.2[i]? = some cc := ⟨_, List.getElem?_eq_getElem hi⟩
      rw [k3 i hi, o82 i cc hcc]
      rfl
    · show uk.1 3 = _
      rw [k2.1 3 (by decide), o5]; rfl
  · rw [if_neg q27]
    unfold jb_House_call_131
    rw [xl_eq]
    have hx : yf_fr [2, 3, 28] [] [] [1] ur (xs_I (xs_I ur 3 (ur.1 23)) 28 0) := yf_I (yf_I yf_refl (by decide)) (by decide)
    refine ⟨_, _, v2, rfl, rfl, v20, rest _ hx ⟨0, by decide, ?_, by rw [o6, o7 q27], fun i hi => by omega⟩ ?_ rfl⟩
    · show ur.1 2 = _
      rw [fr5.1 2 (by decide)]; exact u52
    · show ur.1 23 = _
      rw [o5]
theorem q_call (hfu : 2 ^ 46 < fu) (h : rRel uh um) : ∃ (k b : Int32) (vh vm : xk_St), fm_Law_call fu a1 uh = some (k, vh) ∧ fm_Model_call fu a1 um = some (b, vm) ∧ vm.1 0 = k ∧ (k = 0 → vh.2.2.2 13 0 = b.toInt64) ∧ rRel vh vm := by
  unfold fm_Law_call
  by_cases q1 : a1 < 0
  · have hn : ¬ (0 : Int32) ≤ a1 := fun t => by
      have h1 := Int32.lt_iff_toInt_lt.mp q1
      have h2 := Int32.le_iff_toInt_le.mp t
      omega
    unfold fm_House_call fm_Model_call jb_Model_call_10
    rw [if_neg hn, if_neg hn, mf_fails1, ys_seq, if_neg (show ¬ (1 : Int32) = 0 by decide), ys_catr, if_pos rfl]
    exact ⟨1, 0, uh, xs_I um 0 1, rfl, rfl, rfl, fun t => absurd t (by decide), (rRel_k (x0 := 0) h).2⟩
  · obtain ⟨tn, rfl, htn⟩ := nI_ofp q1
    obtain ⟨r, u', v', e1, e2, e3, e4⟩ := ca_all hfu htn h
    rw [e1, e2, ys_catl, if_neg zz0, z00]
    exact ⟨0, r, _, v', rfl, rfl, e3, fun _ => rfl, rRel_b e4⟩
end
