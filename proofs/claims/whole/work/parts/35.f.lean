section
variable {α β γ δ σ τ : Type} {B : Nat → Int32} {u v w u' v' u0 v0 : xk_St} {T : List (Nat × List Nat × List Nat)} {F : List Nat} {G : List (Nat × Nat × Nat × Int64)} {L W0 : List Nat} {n fu tc mc lim p q len f D k tn tn' j d b g m : Nat} {z : Nat → Nat} {LL : Nat → List Nat} {AA : Nat → sBo} {tt : Nat → Nat} {H H' : rH} {fs r rr : List rFr} {x x' : rFr} {c : Nat × List Nat × List Nat} {y : Nat × sIn} {Q Qn Q1 : List sFr} {P : List rFr → Nat → Prop} {R : List Nat}
/-- what is needed to go into a block by instruction y -/
theorem ri_blk {o : Nat} {Q0 : List sFr} {f0 : sFr} {q0 : List sFr} {s0 : List Nat} {un v1 : xk_St} (h : rFt D B len T F tc mc G z LL AA tt H x r tn y Qn u v w) (hi : y.2.1 = o) (ho : o = 2 ∨ o = 3 ∨ o = 4) (hQ : x.2.2 = f0 :: q0) (hQ0 : Q0 = sf_s f0 s0 :: q0) (hb : sq_block T (sEn' (z x.1) (AA x.1) x.2.1) y.1 o y.2.2.1 Q0 = some Qn) (hU : yf_fr [23, 26, 27, 28] [] [37] [10] u un) (hV : yf_fr [4, 6, 26, 29] [] [29] [3] w v1) (h4 : v1.1 4 = w.1 4) (h6 : v1.1 6 = 0) (h27 : un.1 27 = 0) (h23 : un.1 23 = nI tn) (h29 : v1.1 29 = 0) (hRS : RS T H ((fW LL r ++ LL x.1) ++ sq_f Q0) un v1) :
    ∃ vb q, (∀ s, jb_Model_doBlock_53 s v1 = jb_Model_doBlock_122 s vb) ∧ yf_fr [28] [] [33, 34, 35, 36] [] v1 vb ∧ Qn = ((sEn' (z x.1) (AA x.1) x.2.1, y.1), o, y.2.2.1, false, (sb_par T y.2.2.1).reverse) :: q ∧ RS T H ((fW LL r ++ LL x.1) ++ (sq_f q ++ sb_par T y.2.2.1)) un v1 ∧ (∃ s1, q = sf_s f0 s1 :: q0) ∧ ∀ j' o' vn, (o' = 3 ↔ o = 3) → sSt T F tc mc G (LL x.1) (z x.1) (tt x.1) (AA x.1) j' (((sEn' (z x.1) (AA x.1) x.2.1, y.1), o', y.2.2.1, false, (sb_par T y.2.2.1).reverse) :: q) → j' ≤ (AA x.1).2.2.length → yf_fr [4] [] [] [] vb vn → vn.1 4 = nI (pq (AA x.1) j') → un.1 26 = nI (sEn' (z x.1) (AA x.1) j') → RX D B len T F tc mc G z LL AA tt H ((x.1, j', ((sEn' (z x.1) (AA x.1) x.2.1, y.1), o', y.2.2.1, false, (sb_par T y.2.2.1).reverse) :: q) :: r) tn un vn := by
  obtain ⟨fQ0, q', hq', hd'⟩ := rf_Q h
  rw [hQ] at hq'
  cases hq'
  have hd := hd'
  obtain ⟨z1, z2, z3, z4, z5⟩ := rf_0 h
  have h0 := h.1
  obtain ⟨h1, h2, h3, h4', h5, hh6, hh7, hh8, h9⟩ := h0
  have hF1 := RF_fv z5 (by decide) h3
  obtain ⟨a1, a2, a3, a4, a5, a6, a7⟩ := hF1.1
  have hQ100 : x.2.2.length ≤ 100 := a6.2.2.2.2.1
  have hl : (x :: r).length = r.length + 1 := List.length_cons
  have h60 := hh6.2.2.1
  have hV0 := fV_le hF1.2
  have hwv : yf_fr [4, 6, 8, 9, 10, 11, 23, 26, 29] [0, 1] [29] [3] v v1 := yf_trans (yf_mono h.2.2.1 (by decide)) (yf_mono hV (by decide))
  have hst1 := rSt_fv h1 hwv (by decide)
  have hE : yTM T v1 := hst1.2.2.1
  have h98 : xt_S y.2.1 = 98 := by
    rw [hi]; rcases ho with t | t | t <;> rw [t] <;> decide +kernel
  have hrd : sb_rd y.2.2.1 := h.2.1.2.2.2.2.2.2.1.2.2.2.1 h98
  obtain ⟨hok, Q1, hta, -, hQn⟩ := sq_blockS (by rw [hQ0]; exact fun t => by cases t) hb
  have hpar : ∀ w, w ∈ sb_par T y.2.2.1 → w < 150 := fun w hw => by
    obtain ⟨i, hi⟩ := List.getElem?_of_mem hw
    exact ((sb_prV (b := false) hE hok hrd).2 i w hi).1.1
  rw [hQ0] at hta hRS
  obtain ⟨hRp, s1, hs1⟩ := RS_par hRS hta hd hpar
  have hlx : x.2.2.length = q0.length + 1 := by rw [hQ, List.length_cons]
  have hlq : Q1.length = q0.length + 1 := by rw [hs1, List.length_cons]
  have h28 : v1.1 28 = nI (fV r + Q1.length) := by
    rw [hwv.1 28 (by decide), hh6.2.2.2, show fV (x :: r) = fV r + x.2.2.length from rfl, hlx, hlq]
  have h26 : v1.1 26 = nI ((fN LL r + (LL x.1).length + sq_h Q1) + (sb_par T y.2.2.1).length) := by
    rw [hRp.2.1]
    congr 1
    simp only [List.length_append, fW_len, sq_fl]
    omega
  have hJ : v1.2.1 0 = yb_m y.2.2.1 := by rw [hV.2.1 0 (by decide)]; exact h.2.2.2.1.1
  have h8 : v1.1 8 = nI o := by rw [hV.1 8 (by decide), h.2.2.2.1.2.2.2.1, if_pos (by omega), hi]
  have h23' : v1.1 23 = nI y.1 := by rw [hV.1 23 (by decide)]; exact h.2.2.2.2.2.2.1
  have hy := yp_ins_eats _ _ _ h.2.1.2.2.2.2.2.1
  have hlen := h1.2.2.2.2.2.2.1
  have hs1' : Q1 = sf_s f0 s1 :: q0 := hs1
  refine ⟨_, Q1, fun s => mp_53 (s := s) hE hok hrd hJ h26 h28 (by omega) h8 (by omega) h23' (by omega), vW_f, hQn, hRp, ⟨s1, hs1⟩, fun j' o' vn c3 hst hj hvn hv4 hu26 => ?_⟩
  have e3 : (if o' = 3 then (1 : Int32) else 0) = if o = 3 then 1 else 0 := by
    by_cases t : o = 3
    · rw [if_pos t, if_pos (c3.mpr t)]
    · rw [if_neg t, if_neg (fun t' => t (c3.mp t'))]
  have el : (sb_lab T ((sEn' (z x.1) (AA x.1) x.2.1, y.1), o', y.2.2.1, false, (sb_par T y.2.2.1).reverse)).length = if o = 3 then (sb_par T y.2.2.1).length else (sb_res T y.2.2.1).length := by
    unfold sb_lab
    by_cases t : o = 3
    · rw [if_pos (c3.mpr t), if_pos t]
    · rw [if_neg (fun t' => t (c3.mp t')), if_neg t]
  refine rx_into (fn := ((sEn' (z x.1) (AA x.1) x.2.1, y.1), o', y.2.2.1, false, (sb_par T y.2.2.1).reverse)) (v1 := v1) (s := s1) (x0 := if o = 3 then v1.1 4 else v1.2.2.1 20 y.1) (x2 := nI (fN LL r + (LL x.1).length + sq_h Q1)) h.1 hQ hs1' hd hU hwv rfl rfl hst hj ?_ rfl ?_ hRp h23 ⟨h27, h29, h6⟩ ⟨hu26, hv4⟩
  · show (if o = 3 then v1.1 4 else v1.2.2.1 20 y.1) = if o' = 3 then nI (pq (AA x.1) (sEn' (z x.1) (AA x.1) x.2.1 - (z x.1 + 1 + (AA x.1).2.1.length) + 1)) else v.2.2.1 20 y.1
    by_cases t : o = 3
    · rw [if_pos t, if_pos (c3.mpr t), h4, h.2.2.2.2.1]
      congr 2
      show x.2.1 + 1 = z x.1 + 1 + (AA x.1).2.1.length + x.2.1 - (z x.1 + 1 + (AA x.1).2.1.length) + 1
      omega
    · rw [if_neg t, if_neg (fun t' => t (c3.mp t')), hwv.2.2.1 20 (by decide)]
  · show yf_fr [4] [] [] [] (vW v1 (fV r + Q1.length) _ (nI (sb_lab T ((sEn' (z x.1) (AA x.1) x.2.1, y.1), o', y.2.2.1, false, (sb_par T y.2.2.1).reverse)).length) (nI (fN LL r + (LL x.1).length + sq_h Q1)) (if o' = 3 then 1 else 0)) vn
    rw [el, e3]
    exact hvn
/-- 0x02 and 0x03 -/
theorem ri_2 (h : rFt D B len T F tc mc G z LL AA tt H x r tn y Qn u v w) (hi : y.2.1 = 2 ∨ y.2.1 = 3) (hP : rPs P x r tn) : RZ D B len T F tc mc G z LL AA tt P R (fm_Machine_step fu (u.2.2.1 7 (kF z AA x)) (nI (kF z AA x)) (uF z AA x u)) (mr_st fu w) := by
  have h7 : u.2.2.1 7 (kF z AA x) = nI y.2.1 := by rw [h.2.1.2.2.1.1, if_neg (by omega)]
  have h8 : w.1 8 = nI y.2.1 := by rw [h.2.2.2.1.2.2.2.1, if_pos (by omega)]
  obtain ⟨f0, q, hQ, hd⟩ := rf_Q h
  obtain ⟨z1, z2, z3, z4, z5⟩ := rf_0 h
  have hs := h.2.1.2.1
  unfold sq_step at hs
  rw [if_neg (by omega), if_neg (by omega), if_pos (by omega)] at hs
  have hU2 : yf_fr [23, 26, 27, 28] [] [37] [10] u (uF z AA x u) := yf_mono z4 (by decide)
  have hh7 := h.1.2.2.2.2.2.2.1
  obtain ⟨vb, q1, k1, k2, k3, -, -, k4⟩ := ri_blk (o := y.2.1) (Q0 := x.2.2) (s0 := f0.2.2.2.2) (un := uF z AA x u) (v1 := w) h rfl (by omega) hQ (by rw [hQ]; rfl) hs hU2 yf_refl rfl z3 z1 hh7.1 z2 (by rw [hQ]; exact rf_RS' h hQ)
  have hyl := yl_lt h.2.1.1
  have hst := h.2.1.2.2.2.1
  rw [k3] at hst
  have hRX := k4 (x.2.1 + 1) y.2.1 vb Iff.rfl hst (by omega) yf_refl (by rw [k2.1 4 (by decide)]; exact h.2.2.2.2.1) rfl
  have e0 : mr_st fu w = some ((), vb) := by
    have : mr_st fu w = jb_Model_doBlock_53 1 w := by
      unfold mr_st fm_Model_doWays
      simp only [xs_let]
      rw [h8]
      rcases hi with t | t
      · rw [t]
        show jb_Model_doWays_140 fu w = _
        unfold jb_Model_doWays_140 fm_Model_doBlock jb_Model_doBlock_17 jb_Model_doBlock_22
        rw [h8, t, xs_id]; rfl
      · rw [t]
        show jb_Model_doWays_140 fu w = _
        unfold jb_Model_doWays_140 fm_Model_doBlock jb_Model_doBlock_17 jb_Model_doBlock_22
        rw [h8, t, xs_id]; rfl
    rw [this, k1 1]; rfl
  have e1 : fm_Machine_step fu (nI y.2.1) (nI (kF z AA x)) (uF z AA x u) = some ((), uF z AA x u) := by
    rcases hi with t | t <;> rw [t] <;> rfl
  rw [h7, e0, e1]
  exact ⟨_, _, rfl, rfl, Or.inl ⟨H, _, tn, hRX, hP.2.1 _ _ (Nat.lt_succ_self _)⟩⟩
end
