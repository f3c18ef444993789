section
variable {α β γ δ σ τ : Type} {B : Nat → Int32} {u v w u' v' u0 v0 : xk_St} {T : List (Nat × List Nat × List Nat)} {F : List Nat} {G : List (Nat × Nat × Nat × Int64)} {L W0 : List Nat} {n fu tc mc lim p q len f D k tn tn' j d b g m : Nat} {z : Nat → Nat} {LL : Nat → List Nat} {AA : Nat → sBo} {tt : Nat → Nat} {H H' : rH} {fs r rr : List rFr} {x x' : rFr} {c : Nat × List Nat × List Nat} {y : Nat × sIn} {Q Qn Q1 : List sFr} {P : List rFr → Nat → Prop} {R : List Nat}
/-- the 0x05 or 0x0b of an 0x04 -/
theorem ri_close {fb : sFr} {q1 : List sFr} (h : rFt D B len T F tc mc G z LL AA tt H x r tn y Qn u v w) (hQn : Qn = fb :: q1) (hf4 : fb.2.1 = 4) (hfp : fb.1 = (kF z AA x, y.1)) : ∃ j5 y5 f' Q5, x.2.1 < j5 ∧ (AA x.1).2.2[j5]? = some y5 ∧ (y5.2.1 = 11 ∨ y5.2.1 = 5) ∧ f'.1 = fb.1 ∧ f'.2.2.1 = fb.2.2.1 ∧ f'.2.1 = 4 ∧ sSt T F tc mc G (LL x.1) (z x.1) (tt x.1) (AA x.1) (j5 + 1) Q5 ∧ sq_step T F tc mc G (LL x.1) (sEn' (z x.1) (AA x.1) j5) y5.1 y5.2 (f' :: q1) = some Q5 ∧ u.2.2.1 9 (kF z AA x) = nI (sEn' (z x.1) (AA x.1) j5) ∧ sEn' (z x.1) (AA x.1) j5 < 8192 ∧ (y5.2.1 = 11 → v.2.2.1 20 y.1 = nI (pq (AA x.1) (j5 + 1)) ∧ v.2.2.1 21 y.1 = 0) ∧ (y5.2.1 = 5 → v.2.2.1 21 y.1 = nI (pq (AA x.1) (j5 + 1)) ∧ 0 < pq (AA x.1) (j5 + 1) ∧ pq (AA x.1) (j5 + 1) ≤ 8192) := by
  obtain ⟨c, hc, hrun, hj, hat, hpos, hpq⟩ := rx_body h.1
  have h0 := h.1
  obtain ⟨h1, h2, h3, h4, h5, h6, h7, h8, h9⟩ := h0
  obtain ⟨g1, g2, g3, g4⟩ := h3.1.2.2.2.2.2.1
  obtain ⟨-, hm, r2, b1, b2, b3, b4, b5, b6, b7⟩ := h1.2.2.2.2.2.2.2 x.1 g1
  have t4 := h.2.1.2.2.2.1
  have hrest := sSt_rest t4 (by omega) hrun
  obtain ⟨m, y5, f', k1, k2, k3, k4, k5, k6⟩ := sq_close1 hrest 0 fb (by rw [hQn]; rfl)
  rw [List.getElem?_drop] at k1
  have hst := sSt_add t4 (by omega) k3
  rw [hQn] at hst
  have hst : sSt T F tc mc G (LL x.1) (z x.1) (tt x.1) (AA x.1) (x.2.1 + 1 + m) (f' :: q1) := hst
  obtain ⟨Qi, Qe, d1, d2, d3⟩ := sq_run_pre hrun (x.2.1 + 1 + m) y5 k1
  have hQi : Qi = f' :: q1 := Option.some.inj (d1.symm.trans hst)
  subst hQi
  have hst1 : sSt T F tc mc G (LL x.1) (z x.1) (tt x.1) (AA x.1) (x.2.1 + 1 + m + 1) Qe := by
    unfold sSt
    rw [sq_run_next k1, d1]
    exact d2
  have hin := hc.2.2.2.2.2.2.2.2.2.2 (x.2.1 + 1 + m) y5 _ Qe k1 hst d2
  have hlt := yl_lt k1
  have hend : sEnd (z x.1) (AA x.1) = z x.1 + 1 + (AA x.1).2.1.length + (AA x.1).2.2.length := rfl
  have h8192 := hc.2.2.2.2.2.1
  have hf1 : f'.1.1 = kF z AA x := by rw [k4, hfp]
  have hf2 : f'.1.2 = y.1 := by rw [k4, hfp]
  have hy0 : 0 < y.1 := hpos x.2.1 y h.2.1.1
  have hb6 := b6 (x.2.1 + 1 + m) y5 f' _ k1 hst (by rw [hf2]; omega)
  rw [hf2] at hb6
  refine ⟨x.2.1 + 1 + m, y5, f', Qe, by omega, k1, k2, k4, k5, by rw [k6, hf4], hst1, d2, ?_, by show z x.1 + 1 + (AA x.1).2.1.length + (x.2.1 + 1 + m) < 8192; omega, fun e => ⟨(hb6.1 e).1, (hb6.1 e).2 (by rw [k6, hf4])⟩, fun e => ⟨hb6.2 e, hpq _, ?_⟩⟩
  · rcases k2 with e | e
    · have := (hin.2.2.2.1 e f' _ rfl).2 (by rw [k6, hf4]; decide)
      rw [hf1] at this; exact this
    · have := hin.2.2.2.2.1 e f' _ rfl
      rw [hf1] at this; exact this
  · have t1 := yp_ins_eats _ _ _ (yp_codeA b1 (x.2.1 + 1 + m) y5 k1)
    have t2 : pq (AA x.1) (x.2.1 + 1 + m + 1) ≤ (AA x.1).1 := t1.2
    have := h1.2.2.2.2.2.2.1
    omega
/-- 0x04 -/
theorem ri_4 (h : rFt D B len T F tc mc G z LL AA tt H x r tn y Qn u v w) (hi : y.2.1 = 4) (hP : rPs P x r tn) : RZ D B len T F tc mc G z LL AA tt P R (fm_Machine_step fu (u.2.2.1 7 (kF z AA x)) (nI (kF z AA x)) (uF z AA x u)) (mr_st fu w) := by
  have h7 : u.2.2.1 7 (kF z AA x) = nI 4 := by rw [h.2.1.2.2.1.1, if_neg (by omega), hi]
  have h8 : w.1 8 = nI 4 := by rw [h.2.2.2.1.2.2.2.1, if_pos (by omega), hi]
  have hk : kF z AA x < 8192 := h.2.1.2.2.2.2.2.2.2.1
  obtain ⟨f0, q, hQ, hd⟩ := rf_Q h
  obtain ⟨z1, z2, z3, z4, z5⟩ := rf_0 h
  have hs := h.2.1.2.1
  unfold sq_step at hs
  rw [if_neg (by omega), if_neg (by omega), if_neg (by omega), if_pos hi, hQ] at hs
  obtain ⟨Q0, ht0, hs⟩ := Option.bind_eq_some_iff.mp hs
  obtain ⟨s, yv, a3, p1, p2, p3, p4⟩ := rf_cond (rf_RS' h hQ) ht0 hd
  have hh7 := h.1.2.2.2.2.2.2.1
  have hy := yp_ins_eats _ _ _ h.2.1.2.2.2.2.2.1
  have hlen := h.1.1.2.2.2.2.2.2.1
  have h23' : ∀ k, (xs_I w 26 k).1 23 = nI y.1 := fun k => h.2.2.2.2.2.2.1
  have hV2 : yf_fr [4, 6, 26, 29] [] [29] [3] w (xs_I w 26 (nI ((fW LL r ++ LL x.1) ++ sq_f Q0).length)) := yf_I yf_refl (by decide)
  have hyl := yl_lt h.2.1.1
  have e0 : mr_st fu w = if yv = 0 then jb_Model_doBlock_22 0 (xs_I w 26 (nI ((fW LL r ++ LL x.1) ++ sq_f Q0).length)) else jb_Model_doBlock_53 1 (xs_I w 26 (nI ((fW LL r ++ LL x.1) ++ sq_f Q0).length)) := by
    unfold mr_st fm_Model_doWays
    simp only [xs_let]
    rw [h8]
    show jb_Model_doWays_140 fu w = _
    unfold jb_Model_doWays_140 fm_Model_doBlock jb_Model_doBlock_17
    rw [h8, xs_id]
    show (xs_seq (fm_Model_drop w) fun a12 u13 => if a12 = (0 : Int64) then (jb_Model_doBlock_22 (0 : Int32) u13) else jb_Model_doBlock_22 (1 : Int32) u13) = _
    rw [p2, ys_seq]
    rfl
  have e1 : fm_Machine_step fu (nI 4) (nI (kF z AA x)) (uF z AA x u) = some ((), if yv = 0 then xs_I (xs_I (uF z AA x u) 28 (nI ((fW LL r ++ LL x.1) ++ sq_f Q0).length)) 26 (u.2.2.1 9 (kF z AA x) + 1) else xs_I (uF z AA x u) 28 (nI ((fW LL r ++ LL x.1) ++ sq_f Q0).length)) := by
    have : fm_Machine_step fu (nI 4) (nI (kF z AA x)) (uF z AA x u) = xs_seq (xs_seq (fm_Values_pop__h61 (uF z AA x u)) fun a2 u3 => if a2 = (0 : Int64) then ((if nI (kF z AA x) < 0 ∨ 8192 ≤ (nI (kF z AA x)).toNatClampNeg then none else some ((), xs_I u3 26 ((u3.2.2.1 9 (nI (kF z AA x)).toNatClampNeg) + (1 : Int32))))) else (some ((()), u3))) fun _ u9 => some ((), u9) := rfl
    rw [this, xs_id, p1, ys_seq, ix8192 hk, show (nI (kF z AA x)).toNatClampNeg = kF z AA x from nI_clamp (by omega)]
    by_cases t : yv = 0
    · rw [if_pos t, if_pos t]; rfl
    · rw [if_neg t, if_neg t]
  rw [h7, e0, e1]
  by_cases c0 : yv = 0
  · rw [if_pos c0, if_pos c0]
    -- where it goes
    have hU3 : yf_fr [23, 26, 27, 28] [] [37] [10] u (xs_I (xs_I (uF z AA x u) 28 (nI ((fW LL r ++ LL x.1) ++ sq_f Q0).length)) 26 (u.2.2.1 9 (kF z AA x) + 1)) := yf_I (yf_I (yf_mono z4 (by decide)) (by decide)) (by decide)
    have p4' : RS T H ((fW LL r ++ LL x.1) ++ sq_f Q0) (xs_I (xs_I (uF z AA x u) 28 (nI ((fW LL r ++ LL x.1) ++ sq_f Q0).length)) 26 (u.2.2.1 9 (kF z AA x) + 1)) (xs_I w 26 (nI ((fW LL r ++ LL x.1) ++ sq_f Q0).length)) := RS_fu p4 (yf_I (I := [26]) (J := []) (A := []) (B := []) yf_refl (by decide)) (by decide)
    obtain ⟨vb, q1, k1, k2, k3, k5, ⟨s1, k6⟩, k4⟩ := ri_blk (o := 4) (Q0 := Q0) (s0 := s) h hi (by omega) hQ a3 hs hU3 hV2 rfl z3 z1 hh7.1 z2 p4'
    obtain ⟨j5, y5, f', Q5, b1, b2, b3, b4, b5, b6, b7, b8, b9, b10, b11, b12⟩ := ri_close h k3 rfl rfl
    have b5 : f'.2.2.1 = y.2.2.1 := b5
    have e26 : u.2.2.1 9 (kF z AA x) + 1 = nI (sEn' (z x.1) (AA x.1) (j5 + 1)) := by rw [b9, nI_1]; rfl
    have hj5 := yl_lt b2
    have w20 : ∀ k, (xs_I w 26 k).2.2.1 20 y.1 = v.2.2.1 20 y.1 := fun k => by
      show w.2.2.1 20 y.1 = _
      rw [h.2.2.1.2.2.1 20 (by decide)]
    have w21 : ∀ k, (xs_I w 26 k).2.2.1 21 y.1 = v.2.2.1 21 y.1 := fun k => by
      show w.2.2.1 21 y.1 = _
      rw [h.2.2.1.2.2.1 21 (by decide)]
    have e2 : jb_Model_doBlock_22 0 (xs_I w 26 (nI ((fW LL r ++ LL x.1) ++ sq_f Q0).length)) = if v.2.2.1 21 y.1 = 0 then some ((), xs_I (xs_I w 26 (nI ((fW LL r ++ LL x.1) ++ sq_f Q0).length)) 4 (v.2.2.1 20 y.1)) else jb_Model_doBlock_122 0 vb := by
      unfold jb_Model_doBlock_22
      simp only [xs_let]
      rw [if_pos trivial, h23', ix8192 (by omega), ix8192 (by omega), show (nI y.1).toNatClampNeg = y.1 from nI_clamp (by omega), w21, w20, k1 0]
    rw [e2]
    rcases b3 with b3 | b3
    · -- no 0x05
      obtain ⟨c1, c2⟩ := b11 b3
      rw [if_pos c2, c1]
      have hse : sq_end T (f' :: q1) = some Q5 := by
        unfold sq_step at b8
        rw [if_neg (by omega), if_neg (by omega), if_neg (by omega), if_neg (by omega), if_neg (by omega), if_pos b3] at b8
        exact b8
      obtain ⟨e3, e4⟩ := sq_endS hse
      have hsame := e3 b6
      have hpu : sq_pushes (sb_res T y.2.2.1) q1 = some Q5 := by
        rcases e4 with ⟨t, -⟩ | ⟨-, t, -⟩
        · rw [k6] at t; cases t
        · rw [b5] at t; exact t
      rw [b5] at hsame
      rw [k6] at hpu
      have hQ5 := sq_pushesS hpu
      have hh := h.1
      obtain ⟨h1, h2, h3, h4, h5, h6, -, h8', h9⟩ := hh
      have hw4 : yf_fr [4, 6, 8, 9, 10, 11, 23, 26, 29] [0, 1] [29] [3] v (xs_I (xs_I w 26 (nI ((fW LL r ++ LL x.1) ++ sq_f Q0).length)) 4 (nI (pq (AA x.1) (j5 + 1)))) := yf_I (yf_I (yf_mono z5 (by decide)) (by decide)) (by decide)
      refine ⟨_, _, rfl, rfl, Or.inl ⟨H, (x.1, j5 + 1, Q5) :: r, tn, ?_, hP.2.1 _ _ (by omega)⟩⟩
      have hres : ∀ w, w ∈ sb_res T y.2.2.1 → w < 150 := fun wd hw => by
        obtain ⟨i, hi'⟩ := List.getElem?_of_mem hw
        have h98 : xt_S y.2.1 = 98 := by rw [hi]; decide +kernel
        obtain ⟨hok, -⟩ := sq_blockS (by rw [a3]; exact fun t => by cases t) hs
        exact ((sb_prV (b := true) h1.2.2.1 hok (h.2.1.2.2.2.2.2.2.1.2.2.2.1 h98)).2 i wd hi').1.1
      refine rx_jump (x := x) (x' := (x.1, j5 + 1, Q5)) h.1 rfl hU3 (yf_mono hw4 (by decide)) (fun i _ => ?_) b7 hj5 ?_ ?_ ?_ ?_ ?_ ⟨hh7.1, ?_, hh7.2.2⟩ ⟨z1, z2, z3⟩ ⟨e26, rfl⟩
      · rw [hw4.2.2.1 33 (by decide), hw4.2.2.1 34 (by decide), hw4.2.2.1 35 (by decide), hw4.2.2.1 36 (by decide)]
        exact ⟨rfl, rfl, rfl, rfl⟩
      · show ¬ Q5 = []
        rw [hQ5]; exact fun t => by cases t
      · intro d g hg
        have hg : Q5[d]? = some g := hg
        rw [hQ5] at hg
        cases d with
        | zero => cases hg; exact hd
        | succ d => exact h3.1.2.2.2.2.2.1.2.2.1 (d + 1) g (by rw [hQ]; exact hg)
      · show rW T z AA x.1 Q5 (fV r) (fN LL r + (LL x.1).length) _
        have t := rW_fr h3.1.2.2.2.2.1 hw4 (by decide)
        rw [hQ] at t
        rw [hQ5]
        exact rW_tp t ⟨rfl, rfl, rfl⟩
      · have e : fW LL ((x.1, j5 + 1, Q5) :: r) = (fW LL r ++ LL x.1) ++ (sq_f q1 ++ sb_res T y.2.2.1) := by
          show fW LL r ++ (LL x.1 ++ sq_f Q5) = _
          rw [hQ5, k6]
          show fW LL r ++ (LL x.1 ++ (sq_f q ++ ((sb_res T y.2.2.1).reverse ++ s1).reverse)) = (fW LL r ++ LL x.1) ++ ((sq_f q ++ s1.reverse) ++ sb_res T y.2.2.1)
          rw [List.reverse_append, List.reverse_reverse]
          simp only [List.append_assoc]
        rw [e]
        refine RS_fv (v := xs_I w 26 (nI ((fW LL r ++ LL x.1) ++ sq_f Q0).length)) ?_ (yf_I (I := [4]) (J := []) (A := []) (B := []) yf_refl (by decide)) (by decide)
        refine RS_re k5 (by simp only [List.length_append]; rw [hsame.1]) fun i c c' hc hc' => ?_
        have ea : ∀ l, (fW LL r ++ LL x.1) ++ (sq_f q1 ++ l) = ((fW LL r ++ LL x.1) ++ sq_f q1) ++ l := fun l => by rw [List.append_assoc (fW LL r ++ LL x.1)]
        rw [ea] at hc hc'
        by_cases zi : i < ((fW LL r ++ LL x.1) ++ sq_f q1).length
        · rw [List.getElem?_append_left zi] at hc hc'
          rw [hc] at hc'; cases hc'
          exact Or.inl rfl
        · rw [List.getElem?_append_right (by omega)] at hc hc'
          exact Or.inr ⟨(hsame.2 _ _ _ hc hc').1, hres c' (List.mem_of_getElem? hc')⟩
      · show w.1 28 = nI (fV r + Q5.length)
        rw [h.2.2.1.1 28 (by decide), h6.2.2.2, hQ5]
        show nI (fV r + x.2.2.length) = _
        rw [hQ, List.length_cons, List.length_cons]
      · show w.2.1 2 = lN tn
        rw [h.2.2.1.2.1 2 (by decide)]; exact hh7.2.1
    · -- with an 0x05
      obtain ⟨c1, c2, c3⟩ := b12 b3
      have hne : ¬ v.2.2.1 21 y.1 = 0 := by
        rw [c1]
        intro t
        have := (nI_eq (b := 0) (by omega) (by decide)).mp t
        omega
      rw [if_neg hne]
      have hse : sq_else T (f' :: q1) = some Q5 := by
        unfold sq_step at b8
        rw [if_neg (by omega), if_neg (by omega), if_neg (by omega), if_neg (by omega), if_pos b3] at b8
        exact b8
      have e3 := sq_elseS hse
      rw [b4, b5] at e3
      rw [e3] at b7
      have hb23 : vb.1 23 = nI y.1 := by rw [k2.1 23 (by decide)]; exact h23' _
      have e4 : jb_Model_doBlock_122 0 vb = some ((), xs_I vb 4 (nI (pq (AA x.1) (j5 + 1)))) := by
        unfold jb_Model_doBlock_122
        simp only [xs_let]
        rw [if_pos trivial, hb23, ix8192 (by omega), show (nI y.1).toNatClampNeg = y.1 from nI_clamp (by omega), k2.2.2.1 21 (by decide), w21, c1]
      rw [e4]
      have hRX := k4 (j5 + 1) 5 (xs_I vb 4 (nI (pq (AA x.1) (j5 + 1)))) (by decide) b7 hj5 (yf_I yf_refl (by decide)) rfl e26
      exact ⟨_, _, rfl, rfl, Or.inl ⟨H, _, tn, hRX, hP.2.1 _ _ (by omega)⟩⟩
  · rw [if_neg c0, if_neg c0]
    have hU2 : yf_fr [23, 26, 27, 28] [] [37] [10] u (xs_I (uF z AA x u) 28 (nI ((fW LL r ++ LL x.1) ++ sq_f Q0).length)) := yf_I (yf_mono z4 (by decide)) (by decide)
    obtain ⟨vb, q1, k1, k2, k3, -, -, k4⟩ := ri_blk (o := 4) (Q0 := Q0) (s0 := s) h hi (by omega) hQ a3 hs hU2 hV2 rfl z3 z1 hh7.1 z2 p4
    have hst := h.2.1.2.2.2.1
    rw [k3] at hst
    have hRX := k4 (x.2.1 + 1) 4 vb Iff.rfl hst (by omega) yf_refl (by rw [k2.1 4 (by decide)]; exact h.2.2.2.2.1) rfl
    rw [k1 1]
    exact ⟨_, _, rfl, rfl, Or.inl ⟨H, _, tn, hRX, hP.2.1 _ _ (Nat.lt_succ_self _)⟩⟩
end
