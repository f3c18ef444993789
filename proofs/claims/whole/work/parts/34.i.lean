section
variable {α β γ δ σ τ : Type} {B : Nat → Int32} {u v w u' v' u0 v0 : xk_St} {T : List (Nat × List Nat × List Nat)} {F : List Nat} {G : List (Nat × Nat × Nat × Int64)} {L : List Nat} {n fu tc mc lim p q len f D k tn tn' j d : Nat} {Q Q' Q1 Qn : List sFr} {z : Nat → Nat} {LL : Nat → List Nat} {AA : Nat → sBo} {tt : Nat → Nat} {a : sBo} {H H' : rH} {fs r : List rFr} {x x' : rFr} {y : Nat × sIn} {ft : sFr} {c : Nat × List Nat × List Nat}
theorem sq_fa {q1 q2 : List sFr} : sq_f (q1 ++ q2) = sq_f q2 ++ sq_f q1 := by
  induction q1 with
  | nil => show sq_f q2 = sq_f q2 ++ []; rw [List.append_nil]
  | cons f r ih =>
    show sq_f (r ++ q2) ++ f.2.2.2.2.reverse = sq_f q2 ++ (sq_f r ++ f.2.2.2.2.reverse)
    rw [ih, List.append_assoc]
/-- behind the end of a block: on both sides the same instruction -/
theorem rx_goend {je : Nat} {Qe : List sFr} {un vn : xk_St} (h : RX D B len T F tc mc G z LL AA tt H (x :: r) tn u0 v0) (hd : x.2.2[d]? = some ft) (hu : yf_fr [23, 26, 27, 28] [] [37] [10] u0 un) (hv : yf_fr [4, 6, 8, 9, 10, 11, 23, 26, 28, 29] [0, 1, 2] [29] [3] v0 vn) (hlt : je < (AA x.1).2.2.length) (hst : sSt T F tc mc G (LL x.1) (z x.1) (tt x.1) (AA x.1) (je + 1) Qe) (hne : ¬ x.2.2.drop (d + 1) = []) (hpu : sq_pushes (sb_res T ft.2.2.1) (x.2.2.drop (d + 1)) = some Qe) (hRS : RS T H (fW LL r ++ (LL x.1 ++ (sq_f (x.2.2.drop (d + 1)) ++ sb_res T ft.2.2.1))) un vn) (h28 : vn.1 28 = nI (fV r + (x.2.2.length - 1 - d))) (htn : un.1 23 = nI tn ∧ vn.2.1 2 = lN tn) (h0 : un.1 27 = 0 ∧ vn.1 29 = 0 ∧ vn.1 6 = 0) (hp : un.1 26 = nI (sEn' (z x.1) (AA x.1) (je + 1)) ∧ vn.1 4 = nI (pq (AA x.1) (je + 1))) : RX D B len T F tc mc G z LL AA tt H ((x.1, je + 1, Qe) :: r) tn un vn := by
  have hdl := yl_lt hd
  have h3 := h.2.2.1
  have hg := h3.1.2.2.2.2.2.1
  obtain ⟨f0, f1, q, e1, e2, e3⟩ := sTp_sm (sTp_pushes hne hpu)
  have hdrop : (x.2.2.drop (d + 1)).length = x.2.2.length - 1 - d := by rw [List.length_drop]; omega
  have hQ : sq_f Qe = sq_f (x.2.2.drop (d + 1)) ++ sb_res T ft.2.2.1 := by
    rw [e1] at hpu ⊢
    rw [sq_pushesS hpu]
    show sq_f q ++ ((sb_res T ft.2.2.1).reverse ++ f0.2.2.2.2).reverse = (sq_f q ++ f0.2.2.2.2.reverse) ++ sb_res T ft.2.2.1
    rw [List.reverse_append, List.reverse_reverse, List.append_assoc]
  have hlow : ∀ i, i < fV r → vn.2.2.1 33 i = v0.2.2.1 33 i ∧ vn.2.2.1 34 i = v0.2.2.1 34 i ∧ vn.2.2.1 35 i = v0.2.2.1 35 i ∧ vn.2.2.1 36 i = v0.2.2.1 36 i := fun i _ => by
    rw [hv.2.2.1 33 (by decide), hv.2.2.1 34 (by decide), hv.2.2.1 35 (by decide), hv.2.2.1 36 (by decide)]
    exact ⟨rfl, rfl, rfl, rfl⟩
  have hWd := rW_tail (d := d + 1) (rW_fr (v' := vn) h3.1.2.2.2.2.1 hv (by decide)) (by omega)
  have hlq : Qe.length = x.2.2.length - 1 - d := by
    rw [← hdrop, e1, e2, List.length_cons, List.length_cons]
  refine rx_jump (x' := (x.1, je + 1, Qe)) h rfl hu (yf_mono hv (by decide)) hlow hst hlt ?_ ?_ ?_ ?_ ?_ ⟨htn.1, htn.2, h.2.2.2.2.2.2.1.2.2⟩ h0 hp
  · show ¬ Qe = []
    rw [e2]; exact fun y => by cases y
  · intro e g he
    have he : Qe[e]? = some g := he
    rw [e1] at hpu
    rw [sq_pushesS hpu] at he
    cases e with
    | zero =>
      cases he
      refine hg.2.2.1 (d + 1) f0 ?_
      have : (x.2.2.drop (d + 1))[0]? = some f0 := by rw [e1]; rfl
      rw [List.getElem?_drop] at this
      exact this
    | succ e =>
      refine hg.2.2.1 (d + 1 + (e + 1)) g ?_
      have : (x.2.2.drop (d + 1))[e + 1]? = some g := by rw [e1]; exact he
      rw [List.getElem?_drop] at this
      exact this
  · show rW T z AA x.1 Qe (fV r) (fN LL r + (LL x.1).length) vn
    rw [e1] at hWd
    rw [e2]
    exact rW_tp hWd e3
  · show RS T H (fW LL r ++ (LL x.1 ++ sq_f Qe)) un vn
    rw [hQ]; exact hRS
  · rw [h28]
    show nI (fV r + (x.2.2.length - 1 - d)) = nI (fV r + Qe.length)
    rw [hlq]
/-- a branch, on both sides -/
theorem rz_branch {P : List rFr → Nat → Prop} {R Y : List Nat} (hfu : 18000 < fu) (h : RX D B len T F tc mc G z LL AA tt H (x :: r) tn u0 v0) (hu : yf_fr [26, 27, 28] [] [37] [10] u0 u) (hv : yf_fr [4, 6, 8, 9, 10, 11, 23, 26, 29] [0, 1] [29] [3] v0 v) (hu7 : u.1 27 = 0) (hv9 : v.1 29 = 0) (hv6 : v.1 6 = 0) (hd : x.2.2[d]? = some ft) (hRS : RS T H (fW LL r ++ (LL x.1 ++ (sq_f (x.2.2.drop (d + 1)) ++ (Y ++ sb_lab T ft)))) u v)
    (hP1 : ∀ x2 r2 Qn2, r = x2 :: r2 → P ((x2.1, x2.2.1, Qn2) :: r2) tn) (hP2 : ∀ j' Q', x.2.1 < j' → P ((x.1, j', Q') :: r) tn) (hP3 : ∀ j' Q' tn', tn = tn' + 1 → P ((x.1, j', Q') :: r) tn') (hR : ∀ c, r = [] → T[tt x.1]? = some c → R = c.2.2) : RZ D B len T F tc mc G z LL AA tt P R (fm_Machine_branch fu (nI ft.1.1) u) (fm_Model_goOut fu (nI d) v) := by
  obtain ⟨yy, Qn, hy⟩ := rx_at h
  obtain ⟨i1, i2, i3⟩ := hy.2.2.1.2.2.1 d ft hd
  obtain ⟨cc, hco, hrun, hj, hat, hpos, hpq⟩ := rx_body h
  have hdl := yl_lt hd
  have h0 := h
  obtain ⟨h1, h2, h3, h4, h5, h6, h7, h8, h9⟩ := h
  obtain ⟨t1, t2, t3, t4⟩ := h9 x r rfl
  have hl : (x :: r).length = r.length + 1 := List.length_cons
  have h60 := h6.2.2.1
  have hF1 := RF_fv hv (by decide) (RF_fu hu (by decide) h3)
  have hs := rSt_fv (rSt_fu h1 hu (by decide)) hv (by decide)
  obtain ⟨a1, a2, a3, a4, a5, a6, a7⟩ := hF1.1
  have hQ100 : x.2.2.length ≤ 100 := a6.2.2.2.2.1
  have hV := fV_le hF1.2
  have hN := fN_le hs hF1.2
  have v28 : v.1 28 = nI (fV r + x.2.2.length) := by rw [hv.1 28 (by decide)]; exact h6.2.2.2
  have v27 : v.1 27 = nI (r.length + 1) := by rw [hv.1 27 (by decide), h6.2.1, hl]
  have ew : nI (fV r + x.2.2.length) - 1 - nI d = nI (fV r + (x.2.2.length - 1 - d)) := by
    rw [show fV r + x.2.2.length = (fV r + x.2.2.length - 1) + 1 by omega, nI_pred]
    have := nI_subb (a := fV r + (x.2.2.length - 1 - d)) (b := d)
    rw [show fV r + (x.2.2.length - 1 - d) + d = fV r + x.2.2.length - 1 by omega] at this
    exact this
  have u7A : u.2.2.1 7 ft.1.1 = nI (sh_op ft.2.1) := by rw [hu.2.2.1 7 (by decide)]; exact i1
  unfold fm_Machine_branch fm_Model_goOut
  simp only [xs_let]
  rw [v28, ew, v27, nI_pred, if_neg (nI_in (N := 61) (by omega) (by decide)), show (nI r.length).toNatClampNeg = r.length from nI_clamp (by omega), a4]
  have ceq : nI (fV r + (x.2.2.length - 1 - d)) = nI (fV r) ↔ ft.2.1 = 0 := (nI_eq (by omega) (by omega)).trans ⟨fun t => i3.mpr (by omega), fun t => by have := i3.mp t; omega⟩
  obtain ⟨s6, s3, -⟩ := sh_in _ i2
  by_cases z0 : ft.2.1 = 0
  · -- out of the call
    have hout : ft.1.1 = z x.1 ∧ ft.2.2.1 = .inr (lN (tt x.1)) := by
      rcases rx_open h0 hd with ⟨-, b2, -, b4⟩ | ⟨k0, x0, st, -, -, b3, -, -, b6, -⟩
      · exact ⟨by rw [b2], b4⟩
      · omega
    have hz8 : z x.1 < 8192 := by
      have h8192 := hco.2.2.2.2.2.1
      have hend : sEnd (z x.1) (AA x.1) = z x.1 + 1 + (AA x.1).2.1.length + (AA x.1).2.2.length := rfl
      omega
    have hc := hco.2.1
    have h96 := hco.2.2.1
    have ht64 : tt x.1 < 64 := by have := yl_lt hc; have := hs.1.1.2.1; omega
    have hlab : sb_lab T ft = cc.2.2 := by
      unfold sb_lab
      rw [if_neg (by omega), hout.2]
      show (match T[sb_n (lN (tt x.1))]? with
        | none => []
        | some c => c.2.2) = cc.2.2
      rw [sb_nL (by omega), hc]
    rw [if_neg (nI_in (N := 8192) (by rw [hout.1]; exact hz8) (by decide)), nI_clamp (by rw [hout.1]; omega), u7A, if_pos (s6.mpr z0), if_pos (ceq.mpr z0), xs_id, xs_id]
    refine rz_leave (Y := LL x.1 ++ (sq_f (x.2.2.drop (d + 1)) ++ Y)) hfu h0 hu hv hu7 hv9 hv6 hc h96 ?_ hP1 (fun e => hR cc e hc)
    rw [hlab] at hRS
    have : fW LL r ++ (LL x.1 ++ (sq_f (x.2.2.drop (d + 1)) ++ (Y ++ cc.2.2))) = fW LL r ++ ((LL x.1 ++ (sq_f (x.2.2.drop (d + 1)) ++ Y)) ++ cc.2.2) := by simp only [List.append_assoc]
    rw [← this]; exact hRS
  · obtain ⟨k0, x0, b1, b2, b3, b4, b5, b6, b7, b8, b9, b10, b11, -⟩ := rx_blk h0 hd z0
    have hf11 : ft.1.1 = sEn' (z x.1) (AA x.1) k0 := by rw [b3]
    have hne : ¬ x.2.2.drop (d + 1) = [] := fun t => by
      have := congrArg List.length t
      rw [List.length_drop, List.length_nil] at this
      exact z0 (i3.mpr (by omega))
    obtain ⟨w1, w2, w3, w4⟩ := a5 d ft hd
    have w4 := w4 z0
    rw [if_neg (nI_in (N := 8192) (by rw [hf11]; exact b6) (by decide)), nI_clamp (by rw [hf11]; omega), u7A, if_neg (fun t => z0 (s6.mp t)), if_neg (fun t => z0 (ceq.mp t)), if_neg (nI_in (N := 6200) (by omega) (by decide)), nI_clamp (by omega), w3]
    have hlablen : (sb_lab T ft).length ≤ 16 := by
      have hok := (sq_okget a6.2.2.2.2.2 hd)
      have := sb_prV (b := decide (¬ ft.2.1 = 3)) hs.2.2.1 hok.1 hok.2.1
      rw [← sb_labp] at this
      exact this.1
    -- both sides slide, from any state with the same stacks
    have slide : ∀ (u1 v1 : xk_St), yf_fr [23] [] [] [] u u1 → yf_fr [] [2] [] [] v v1 → ∃ us vs, (∀ (g : xk_St → Option (Unit × xk_St)), (if nI ft.1.1 < 0 ∨ 8192 ≤ (nI ft.1.1).toNatClampNeg then none else if nI ft.1.1 < 0 ∨ 8192 ≤ (nI ft.1.1).toNatClampNeg then none else xs_seq (fm_Values_slide__h61 fu ((u1.2.2.2 2 (nI ft.1.1).toNatClampNeg).toInt32) ((u1.1 25) + (u1.2.2.1 10 (nI ft.1.1).toNatClampNeg)) u1) fun _ u2 => g u2) = g us) ∧ fm_Model_comeDown fu (v1.2.2.1 34 (fV r + (x.2.2.length - 1 - d))) (v1.2.2.1 35 (fV r + (x.2.2.length - 1 - d))) v1 = some ((), vs) ∧ yf_fr [28] [] [37] [10] u1 us ∧ yf_fr [26] [] [29] [3] v1 vs ∧ RS T H (fW LL r ++ (LL x.1 ++ (sq_f (x.2.2.drop (d + 1)) ++ sb_lab T ft))) us vs := fun u1 v1 f1 f2 => by
      have hR1 : RS T H ((fW LL r ++ (LL x.1 ++ sq_f (x.2.2.drop (d + 1)))) ++ (Y ++ sb_lab T ft)) u1 v1 := by
        have e : (fW LL r ++ (LL x.1 ++ sq_f (x.2.2.drop (d + 1)))) ++ (Y ++ sb_lab T ft) = fW LL r ++ (LL x.1 ++ (sq_f (x.2.2.drop (d + 1)) ++ (Y ++ sb_lab T ft))) := by simp only [List.append_assoc]
        rw [e]
        exact RS_fv (RS_fu hRS f1 (by decide)) f2 (by decide)
      obtain ⟨us, vs, s1, s2, s3, s4, s5⟩ := RS_slide hfu hR1
      have hX : (fW LL r ++ (LL x.1 ++ sq_f (x.2.2.drop (d + 1)))).length = fN LL r + (LL x.1).length + sq_h (x.2.2.drop (d + 1)) := by
        rw [List.length_append, List.length_append, fW_len, sq_fl]; omega
      rw [hX] at s1 s2
      refine ⟨us, vs, fun g => ?_, ?_, s3, s4, ?_⟩
      · have e10 : u1.2.2.1 10 ft.1.1 = nI (sq_h (x.2.2.drop (d + 1))) := by rw [f1.2.2.1 10 (by decide), hu.2.2.1 10 (by decide)]; exact b9
        have e2 : u1.2.2.2 2 ft.1.1 = lN (sb_lab T ft).length := by rw [f1.2.2.2 2 (by decide), hu.2.2.2 2 (by decide)]; exact b10
        have e25 : u1.1 25 = nI (fN LL r + (LL x.1).length) := by rw [f1.1 25 (by decide), hu.1 25 (by decide)]; exact t2
        rw [if_neg (nI_in (N := 8192) (by rw [hf11]; exact b6) (by decide)), if_neg (nI_in (N := 8192) (by rw [hf11]; exact b6) (by decide)), nI_clamp (by rw [hf11]; omega), e10, e2, e25, sb_nLi (by omega), nI_add, s1, ys_seq]
      · rw [f2.2.2.1 34 (by decide), f2.2.2.1 35 (by decide), w1, w2]
        exact s2
      · have e : (fW LL r ++ (LL x.1 ++ sq_f (x.2.2.drop (d + 1)))) ++ sb_lab T ft = fW LL r ++ (LL x.1 ++ (sq_f (x.2.2.drop (d + 1)) ++ sb_lab T ft)) := by simp only [List.append_assoc]
        rw [← e]; exact s5
    by_cases z3 : ft.2.1 = 3
    · -- back to a loop
      rw [if_pos (s3.mpr z3), if_pos z3, if_neg (show ¬ (1 : Int32) = 0 by decide)]
      have u23 : u.1 23 = nI tn := by rw [hu.1 23 (by decide)]; exact h7.1
      have vJ : v.2.1 2 = lN tn := by rw [hv.2.1 2 (by decide)]; exact h7.2.1
      unfold fm_Machine_spendTurn
      simp only [xs_let]
      rw [u23, vJ]
      have cu : nI tn = (0 : Int32) ↔ tn = 0 := nI_eq (b := 0) (by have := h7.2.2; omega) (by decide)
      have cv : lN tn = (0 : Int64) ↔ tn = 0 := ⟨fun t => by
        have h1 := (pk_lLE (a := tn) (b := 0) (by have := h7.2.2; omega) (by omega)).mp (by rw [t]; exact Int64.le_refl _)
        omega, fun t => by rw [t]; rfl⟩
      by_cases zt : tn = 0
      · rw [if_pos (cu.mpr zt), if_pos (cv.mpr zt), ys_seq, if_pos rfl]
        have hU2 : yf_fr [26, 27, 28] [] [37] [10] u0 (xs_I u 27 13) := yf_I hu (by decide)
        have hV2 : yf_fr [4, 6, 8, 9, 10, 11, 23, 26, 29] [0, 1] [29] [3] v0 (xs_I v 29 13) := yf_I hv (by decide)
        exact ⟨_, _, rfl, rfl, Or.inr (Or.inl ⟨H, tn, 13, by decide, by decide, rfl, rfl, rl_fr h0 hU2 (by decide) hV2 (by decide)⟩)⟩
      · obtain ⟨tn', rfl⟩ : ∃ t, tn = t + 1 := ⟨tn - 1, by omega⟩
        rw [if_neg (fun t => zt (cu.mp t)), if_neg (fun t => zt (cv.mp t)), ys_seq, if_neg (show ¬ (1 : Int32) = 0 by decide), nI_pred, show lN (tn' + 1) - 1 = lN tn' from lN_sub (a := tn' + 1) (b := 1) (by omega)]
        unfold jb_Machine_branch_34 jb_Model_goOut_64 jb_Model_goOut_97
        simp only [xs_let]
        obtain ⟨us, vs, s1, s2, s3', s4, s5⟩ := slide (xs_I u 23 (nI tn')) (xs_J v 2 (lN tn')) (yf_I yf_refl (by decide)) (yf_J yf_refl (by decide))
        rw [s1, if_pos (s3.mpr z3)]
        have vs36 : vs.2.2.1 36 (fV r + (x.2.2.length - 1 - d)) = 1 := by
          rw [s4.2.2.1 36 (by decide)]
          show v.2.2.1 36 (fV r + (x.2.2.length - 1 - d)) = 1
          rw [w3, if_pos z3]
        have vs33 : vs.2.2.1 33 (fV r + (x.2.2.length - 1 - d)) = nI (pq (AA x.1) (k0 + 1)) := by
          rw [s4.2.2.1 33 (by decide)]
          show v.2.2.1 33 (fV r + (x.2.2.length - 1 - d)) = _
          rw [w4, if_pos z3, hf11, show sEn' (z x.1) (AA x.1) k0 - (z x.1 + 1 + (AA x.1).2.1.length) + 1 = k0 + 1 by show z x.1 + 1 + (AA x.1).2.1.length + k0 - _ + 1 = _; omega]
        rw [if_neg (nI_in (N := 6200) (by omega) (by decide)), if_neg (nI_in (N := 6200) (by omega) (by decide)), nI_clamp (by omega), s2, ys_seq, if_neg (show ¬ (nI (fV r + (x.2.2.length - 1 - d)) < 0 ∨ 6200 ≤ fV r + (x.2.2.length - 1 - d)) from fun t => t.elim (nI_pos (by omega)) (by omega)), vs36, if_neg (show ¬ (1 : Int32) = 0 by decide), if_neg (show ¬ (nI (fV r + (x.2.2.length - 1 - d)) < 0 ∨ 6200 ≤ fV r + (x.2.2.length - 1 - d)) from fun t => t.elim (nI_pos (by omega)) (by omega)), nI_1]
        have hpos' : (xs_I vs 28 (nI (fV r + (x.2.2.length - 1 - d) + 1))).2.2.1 33 (fV r + (x.2.2.length - 1 - d)) = nI (pq (AA x.1) (k0 + 1)) := vs33
        rw [hpos', show (1 : Int32) + nI ft.1.1 = nI (1 + ft.1.1) from nI_add 1 ft.1.1]
        have hU2 : yf_fr [23, 26, 27, 28] [] [37] [10] u0 (xs_I us 26 (nI (1 + ft.1.1))) := yf_I (yf_trans (yf_mono hu (by decide)) (yf_trans (yf_I yf_refl (by decide)) (yf_mono s3' (by decide)))) (by decide)
        have hV2 : yf_fr [4, 6, 8, 9, 10, 11, 23, 26, 28, 29] [0, 1, 2] [29] [3] v0 (xs_I (xs_I vs 28 (nI (fV r + (x.2.2.length - 1 - d) + 1))) 4 (nI (pq (AA x.1) (k0 + 1)))) := yf_I (yf_I (yf_trans (yf_mono hv (by decide)) (yf_trans (yf_J yf_refl (by decide)) (yf_mono s4 (by decide)))) (by decide)) (by decide)
        have hx03 : x0.2.1 = 3 := by rw [← b7, z3]; rfl
        have hlow : ∀ i, i < fV r → (xs_I (xs_I vs 28 (nI (fV r + (x.2.2.length - 1 - d) + 1))) 4 (nI (pq (AA x.1) (k0 + 1)))).2.2.1 33 i = v0.2.2.1 33 i ∧ (xs_I (xs_I vs 28 (nI (fV r + (x.2.2.length - 1 - d) + 1))) 4 (nI (pq (AA x.1) (k0 + 1)))).2.2.1 34 i = v0.2.2.1 34 i ∧ (xs_I (xs_I vs 28 (nI (fV r + (x.2.2.length - 1 - d) + 1))) 4 (nI (pq (AA x.1) (k0 + 1)))).2.2.1 35 i = v0.2.2.1 35 i ∧ (xs_I (xs_I vs 28 (nI (fV r + (x.2.2.length - 1 - d) + 1))) 4 (nI (pq (AA x.1) (k0 + 1)))).2.2.1 36 i = v0.2.2.1 36 i := fun i _ => by
          rw [hV2.2.2.1 33 (by decide), hV2.2.2.1 34 (by decide), hV2.2.2.1 35 (by decide), hV2.2.2.1 36 (by decide)]
          exact ⟨rfl, rfl, rfl, rfl⟩
        have hlab : sb_lab T ft = sb_par T ft.2.2.1 := by unfold sb_lab; rw [if_pos z3]
        refine ⟨_, _, rfl, rfl, Or.inl ⟨H, _, tn', rx_jump (x' := (x.1, k0 + 1, ((sEn' (z x.1) (AA x.1) k0, x0.1), x0.2.1, x0.2.2.1, false, (sb_par T ft.2.2.1).reverse) :: x.2.2.drop (d + 1))) h0 rfl hU2 (yf_mono hV2 (by decide)) hlow b8 (by show k0 + 1 ≤ _; omega) (fun t => by cases t) ?_ ?_ ?_ ?_ ⟨?_, ?_, by have := h7.2.2; omega⟩ ⟨?_, ?_, ?_⟩ ⟨?_, rfl⟩, hP3 _ _ tn' rfl⟩⟩
        · intro e g he
          cases e with
          | zero => cases he; rfl
          | succ e =>
            have he : (x.2.2.drop (d + 1))[e]? = some g := he
            rw [List.getElem?_drop] at he
            exact a6.2.2.1 _ g he
        · refine rW_drop (ft := ft) (rW_fr h3.1.2.2.2.2.1 hV2 (by decide)) hd ⟨b3.symm, ?_, b4.symm⟩
          show x0.2.1 = ft.2.1
          omega
        · show RS T H (fW LL r ++ (LL x.1 ++ (sq_f (x.2.2.drop (d + 1)) ++ (sb_par T ft.2.2.1).reverse.reverse))) _ _
          rw [List.reverse_reverse, ← hlab]
          exact RS_fv (RS_fu s5 (yf_I (I := [26]) (J := []) (A := []) (B := []) yf_refl (by decide)) (by decide)) (yf_I (I := [4, 28]) (J := []) (A := []) (B := []) (yf_I yf_refl (by decide)) (by decide)) (by decide)
        · show nI (fV r + (x.2.2.length - 1 - d) + 1) = nI (fV r + (x.2.2.drop (d + 1)).length.succ)
          rw [List.length_drop]
          congr 1
          omega
        · show us.1 23 = nI tn'
          rw [s3'.1 23 (by decide)]; rfl
        · show vs.2.1 2 = lN tn'
          rw [s4.2.1 2 (by decide)]; rfl
        · show us.1 27 = 0
          rw [s3'.1 27 (by decide)]; exact hu7
        · show vs.1 29 = 0
          rw [s4.1 29 (by decide)]; exact hv9
        · show vs.1 6 = 0
          rw [s4.1 6 (by decide)]; exact hv6
        · show nI (1 + ft.1.1) = nI (sEn' (z x.1) (AA x.1) (k0 + 1))
          rw [hf11]
          congr 1
          show 1 + (z x.1 + 1 + (AA x.1).2.1.length + k0) = z x.1 + 1 + (AA x.1).2.1.length + (k0 + 1)
          omega
    · -- behind the block's end
      rw [if_neg (fun t => z3 (s3.mp t)), if_neg z3, if_pos rfl]
      unfold jb_Machine_branch_34 jb_Model_goOut_64 jb_Model_goOut_97
      simp only [xs_let]
      obtain ⟨us, vs, s1, s2, s3', s4, s5⟩ := slide u v yf_refl yf_refl
      obtain ⟨je, ye, f', Qe, j1, j2, j3, j4, j5, j6, j7, j8, j9, j10, j11, j12, j13, j14⟩ := rx_end h0 hd
      have hpu : sq_pushes (sb_res T ft.2.2.1) (x.2.2.drop (d + 1)) = some Qe := by
        rcases j10 with ⟨t, -⟩ | ⟨-, t⟩
        · exact absurd t hne
        · exact t
      rw [s1, if_neg (fun t => z3 (s3.mp t))]
      have hlab : sb_lab T ft = sb_res T ft.2.2.1 := by unfold sb_lab; rw [if_neg z3]
      have hend : fm_Code_endOf (nI ft.1.1) us = some (nI (sEn' (z x.1) (AA x.1) je), us) := by
        have us9 : us.2.2.1 9 = u0.2.2.1 9 := by rw [s3'.2.2.1 9 (by decide), hu.2.2.1 9 (by decide)]
        have us7 : us.2.2.1 7 = u0.2.2.1 7 := by rw [s3'.2.2.1 7 (by decide), hu.2.2.1 7 (by decide)]
        unfold fm_Code_endOf
        simp only [xs_let]
        rw [if_neg (nI_in (N := 8192) (by rw [hf11]; exact b6) (by decide)), nI_clamp (by rw [hf11]; omega), us9, us7]
        by_cases z5 : f'.2.1 = 5
        · obtain ⟨e5, p1, p2, p3, p4⟩ := j12.1 z5
          rw [p2, if_neg (nI_in (N := 8192) p1 (by decide)), nI_clamp (by omega), p3, if_pos rfl, if_neg (show ¬ (nI e5 < 0 ∨ 8192 ≤ e5) from fun t => t.elim (nI_pos (by omega)) (by omega)), p4]
        · rw [j12.2 z5, if_neg (nI_in (N := 8192) j11 (by decide)), nI_clamp (by omega)]
          rcases j13 with t | t
          · rw [t, if_neg (show ¬ (7 : Int32) = 5 by decide)]
          · rw [t, if_neg (show ¬ (11 : Int32) = 5 by decide)]
      rw [hend, ys_seq]
      have vs36 : vs.2.2.1 36 (fV r + (x.2.2.length - 1 - d)) = 0 := by
        rw [s4.2.2.1 36 (by decide), w3, if_neg z3]
      have vs33 : vs.2.2.1 33 (fV r + (x.2.2.length - 1 - d)) = nI (pq (AA x.1) (je + 1)) := by
        rw [s4.2.2.1 33 (by decide), w4, if_neg z3, hv.2.2.1 20 (by decide)]
        exact (j14 b5).1
      rw [if_neg (nI_in (N := 6200) (by omega) (by decide)), if_neg (nI_in (N := 6200) (by omega) (by decide)), nI_clamp (by omega), s2, ys_seq, if_neg (show ¬ (nI (fV r + (x.2.2.length - 1 - d)) < 0 ∨ 6200 ≤ fV r + (x.2.2.length - 1 - d)) from fun t => t.elim (nI_pos (by omega)) (by omega)), vs36, if_pos rfl, if_neg (show ¬ (nI (fV r + (x.2.2.length - 1 - d)) < 0 ∨ 6200 ≤ fV r + (x.2.2.length - 1 - d)) from fun t => t.elim (nI_pos (by omega)) (by omega))]
      have hpos' : (xs_I vs 28 (nI (fV r + (x.2.2.length - 1 - d)))).2.2.1 33 (fV r + (x.2.2.length - 1 - d)) = nI (pq (AA x.1) (je + 1)) := vs33
      rw [hpos', show (1 : Int32) + nI (sEn' (z x.1) (AA x.1) je) = nI (1 + sEn' (z x.1) (AA x.1) je) from nI_add 1 _]
      have hU2 : yf_fr [23, 26, 27, 28] [] [37] [10] u0 (xs_I us 26 (nI (1 + sEn' (z x.1) (AA x.1) je))) := yf_I (yf_trans (yf_mono hu (by decide)) (yf_mono s3' (by decide))) (by decide)
      have hV2 : yf_fr [4, 6, 8, 9, 10, 11, 23, 26, 28, 29] [0, 1, 2] [29] [3] v0 (xs_I (xs_I vs 28 (nI (fV r + (x.2.2.length - 1 - d)))) 4 (nI (pq (AA x.1) (je + 1)))) := yf_I (yf_I (yf_trans (yf_mono hv (by decide)) (yf_mono s4 (by decide))) (by decide)) (by decide)
      refine ⟨_, _, rfl, rfl, Or.inl ⟨H, _, tn, rx_goend h0 hd hU2 hV2 (yl_lt j2) j8 hne hpu ?_ rfl ⟨?_, ?_⟩ ⟨?_, ?_, ?_⟩ ⟨?_, rfl⟩, hP2 _ _ (by omega)⟩⟩
      · rw [← hlab]
        exact RS_fv (RS_fu s5 (yf_I (I := [26]) (J := []) (A := []) (B := []) yf_refl (by decide)) (by decide)) (yf_I (I := [4, 28]) (J := []) (A := []) (B := []) (yf_I yf_refl (by decide)) (by decide)) (by decide)
      · show us.1 23 = nI tn
        rw [s3'.1 23 (by decide), hu.1 23 (by decide)]; exact h7.1
      · show vs.2.1 2 = lN tn
        rw [s4.2.1 2 (by decide), hv.2.1 2 (by decide)]; exact h7.2.1
      · show us.1 27 = 0
        rw [s3'.1 27 (by decide)]; exact hu7
      · show vs.1 29 = 0
        rw [s4.1 29 (by decide)]; exact hv9
      · show vs.1 6 = 0
        rw [s4.1 6 (by decide)]; exact hv6
      · show nI (1 + sEn' (z x.1) (AA x.1) je) = nI (sEn' (z x.1) (AA x.1) (je + 1))
        congr 1
        show 1 + (z x.1 + 1 + (AA x.1).2.1.length + je) = z x.1 + 1 + (AA x.1).2.1.length + (je + 1)
        omega
end
