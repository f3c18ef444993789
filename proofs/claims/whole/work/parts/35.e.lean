section
variable {α β γ δ σ τ : Type} {B : Nat → Int32} {u v w u' v' u0 v0 : xk_St} {T : List (Nat × List Nat × List Nat)} {F : List Nat} {G : List (Nat × Nat × Nat × Int64)} {L W0 : List Nat} {n fu tc mc lim p q len f D k tn tn' j d b g m : Nat} {z : Nat → Nat} {LL : Nat → List Nat} {AA : Nat → sBo} {tt : Nat → Nat} {H H' : rH} {fs r rr : List rFr} {x x' : rFr} {c : Nat × List Nat × List Nat} {y : Nat × sIn} {Q Qn Q1 : List sFr} {P : List rFr → Nat → Prop} {R : List Nat}
/-- the parameters of a block lie on top -/
theorem RS_par {f0 : sFr} {q q1 : List sFr} {lab : List Nat} (h : RS T H (W0 ++ sq_f (f0 :: q)) u v) (ht : sq_takes (yl_f T) lab.reverse (f0 :: q) = some q1) (hd : f0.2.2.2.1 = false) (hl : ∀ w, w ∈ lab → w < 150) : RS T H (W0 ++ (sq_f q1 ++ lab)) u v ∧ ∃ s, q1 = sf_s f0 s :: q := by
  obtain ⟨ds, s, a1, a2, a3, a4⟩ := sq_takesW ht hd
  refine ⟨RS_re h ?_ fun i c c' hc hc' => ?_, s, a4⟩
  · rw [a4]
    show (W0 ++ ((sq_f q ++ s.reverse) ++ lab)).length = (W0 ++ (sq_f q ++ f0.2.2.2.2.reverse)).length
    rw [List.length_reverse] at a2
    rw [a1]
    simp only [List.length_append, List.length_reverse]
    omega
  · have e1 : W0 ++ sq_f (f0 :: q) = (W0 ++ (sq_f q ++ s.reverse)) ++ ds.reverse := by
      show W0 ++ (sq_f q ++ f0.2.2.2.2.reverse) = _
      rw [a1, List.reverse_append]
      simp only [List.append_assoc]
    have e2 : W0 ++ (sq_f q1 ++ lab) = (W0 ++ (sq_f q ++ s.reverse)) ++ lab := by
      rw [a4]
      show W0 ++ ((sq_f q ++ s.reverse) ++ lab) = _
      simp only [List.append_assoc]
    rw [e1] at hc
    rw [e2] at hc'
    by_cases zi : i < (W0 ++ (sq_f q ++ s.reverse)).length
    · rw [List.getElem?_append_left zi] at hc hc'
      rw [hc] at hc'
      cases hc'
      exact Or.inl rfl
    · rw [List.getElem?_append_right (by omega)] at hc hc'
      have hlt := yl_lt hc
      have hlt' := yl_lt hc'
      rw [List.length_reverse] at hlt
      rw [List.getElem?_reverse (by omega)] at hc
      have hc2 : lab.reverse[ds.length - 1 - (i - (W0 ++ (sq_f q ++ s.reverse)).length)]? = some c' := by
        rw [List.getElem?_reverse (by rw [List.length_reverse] at a2; omega), ← hc']
        congr 1
        rw [List.length_reverse] at a2; omega
      exact Or.inr ⟨a3 _ _ _ hc hc2, hl c' (List.mem_of_getElem? hc')⟩
/-- a way begins, by the reference -/
def vW (v : xk_St) (ws : Nat) (x0 x1 x2 x3 : Int32) : xk_St := xs_I (xs_A (xs_A (xs_A (xs_A v 33 ws x0) 34 ws x1) 35 ws x2) 36 ws x3) 28 (nI (ws + 1))
theorem vW_f {ws : Nat} {x0 x1 x2 x3 : Int32} : yf_fr [28] [] [33, 34, 35, 36] [] v (vW v ws x0 x1 x2 x3) := yf_I (yf_A (yf_A (yf_A (yf_A yf_refl (by decide)) (by decide)) (by decide)) (by decide)) (by decide)
theorem mp_begin {ws : Nat} {x0 x1 x2 x3 : Int32} (h28 : v.1 28 = nI ws) (hws : ws < 6200) (hb : x3 = 0 ∨ x3 = 1) : fm_Model_beginWay x0 x1 x2 x3 v = some ((), vW v ws x0 x1 x2 x3) := by
  unfold fm_Model_beginWay
  simp only [xs_let]
  have k : (nI ws).toNatClampNeg = ws := nI_clamp (by omega)
  have c : ¬ (nI ws < 0 ∨ 6200 ≤ ws) := by
    have := nI_in (N := 6200) (c := ws) hws (by decide)
    rw [k] at this; exact this
  rw [h28, k, if_neg c]
  have z1 : (xs_A v 33 ws x0).1 28 = nI ws := h28
  rw [z1, k, if_neg c]
  have z2 : (xs_A (xs_A v 33 ws x0) 34 ws x1).1 28 = nI ws := h28
  rw [z2, k, if_neg c]
  have z3 : (xs_A (xs_A (xs_A v 33 ws x0) 34 ws x1) 35 ws x2).1 28 = nI ws := h28
  rw [z3, k, if_neg c, bo_01 hb]
  have z4 : (xs_A (xs_A (xs_A (xs_A v 33 ws x0) 34 ws x1) 35 ws x2) 36 ws x3).1 28 = nI ws := h28
  rw [z4, nI_1]
  rfl
/-- a block begins, by the reference -/
theorem mp_53 {t : Option Nat ⊕ Int64} {ws o : Nat} {s : Int32} (hE : yTM T v) (hok : sb_ok T t) (hrd : sb_rd t) (hJ : v.2.1 0 = yb_m t) (h26 : v.1 26 = nI (m + (sb_par T t).length)) (h28 : v.1 28 = nI ws) (hws : ws < 6200) (h8 : v.1 8 = nI o) (ho : o < 10) (h23 : v.1 23 = nI p) (hp : p < 8192) : jb_Model_doBlock_53 s v = jb_Model_doBlock_122 s (vW v ws (if o = 3 then v.1 4 else v.2.2.1 20 p) (nI (if o = 3 then (sb_par T t).length else (sb_res T t).length)) (nI m) (if o = 3 then 1 else 0)) := by
  unfold jb_Model_doBlock_53
  simp only [xs_let]
  rw [hJ, show fm_Model_countOf (yb_m t) (0 : Int32) v = _ from mb_count (b := false) hE hok hrd, ys_seq, h8, h26, show nI (m + (sb_par T t).length) - nI (sb_pr T false t).length = nI m from nI_subb]
  have c3 : (nI o = 3) ↔ o = 3 := nI_eq (b := 3) (by omega) (by decide)
  by_cases z : o = 3
  · rw [if_pos (c3.mpr z), if_pos z, if_pos z, if_pos z, hJ, show fm_Model_countOf (yb_m t) (0 : Int32) v = _ from mb_count (b := false) hE hok hrd, ys_seq, mp_begin h28 hws (Or.inr rfl), ys_seq]
    rfl
  · rw [if_neg (fun y => z (c3.mp y)), if_neg z, if_neg z, if_neg z, h23, ix8192 hp, show (nI p).toNatClampNeg = p from nI_clamp (by omega), hJ, show fm_Model_countOf (yb_m t) (1 : Int32) v = _ from mb_count (b := true) hE hok hrd, ys_seq, mp_begin h28 hws (Or.inl rfl), ys_seq]
    rfl
/-- into a block, on both sides -/
theorem rx_into {fn f0 : sFr} {q0 q : List sFr} {s ps : List Nat} {j' : Nat} {x0 x2 : Int32} {un v1 vn : xk_St} (h : RX D B len T F tc mc G z LL AA tt H (x :: r) tn u0 v0) (hQ : x.2.2 = f0 :: q0) (hq : q = sf_s f0 s :: q0) (hd : f0.2.2.2.1 = false) (hu : yf_fr [23, 26, 27, 28] [] [37] [10] u0 un) (hv : yf_fr [4, 6, 8, 9, 10, 11, 23, 26, 29] [0, 1] [29] [3] v0 v1) (hfd : fn.2.2.2.1 = false) (hfs : fn.2.2.2.2 = ps.reverse)
    (hst : sSt T F tc mc G (LL x.1) (z x.1) (tt x.1) (AA x.1) j' (fn :: q)) (hj : j' ≤ (AA x.1).2.2.length) (h33 : x0 = if fn.2.1 = 3 then nI (pq (AA x.1) (fn.1.1 - (z x.1 + 1 + (AA x.1).2.1.length) + 1)) else v0.2.2.1 20 fn.1.2) (h35 : x2 = nI (fN LL r + (LL x.1).length + sq_h q)) (hvn : yf_fr [4] [] [] [] (vW v1 (fV r + q.length) x0 (nI (sb_lab T fn).length) x2 (if fn.2.1 = 3 then 1 else 0)) vn) (hRS : RS T H ((fW LL r ++ LL x.1) ++ (sq_f q ++ ps)) un v1)
    (htn : un.1 23 = nI tn) (h0 : un.1 27 = 0 ∧ v1.1 29 = 0 ∧ v1.1 6 = 0) (hp : un.1 26 = nI (sEn' (z x.1) (AA x.1) j') ∧ vn.1 4 = nI (pq (AA x.1) j')) : RX D B len T F tc mc G z LL AA tt H ((x.1, j', fn :: q) :: r) tn un vn := by
  have hx := h
  obtain ⟨h1, h2, h3, h4, h5, h6, h7, h8, h9⟩ := hx
  have hV1 : yf_fr [4, 6, 8, 9, 10, 11, 23, 26, 28, 29] [0, 1, 2] [29, 33, 34, 35, 36] [3] v0 vn := yf_trans (yf_mono hv (by decide)) (yf_trans (yf_mono vW_f (by decide)) (yf_mono hvn (by decide)))
  have hA : ∀ k, vn.2.2.1 k = (vW v1 (fV r + q.length) x0 (nI (sb_lab T fn).length) x2 (if fn.2.1 = 3 then 1 else 0)).2.2.1 k := fun k => hvn.2.2.1 k (by simp)
  have e33 : vn.2.2.1 33 = upd (v0.2.2.1 33) (fV r + q.length) x0 := by
    rw [hA 33, ← hv.2.2.1 33 (by decide)]; rfl
  have e34 : vn.2.2.1 34 = upd (v0.2.2.1 34) (fV r + q.length) (nI (sb_lab T fn).length) := by
    rw [hA 34, ← hv.2.2.1 34 (by decide)]; rfl
  have e35 : vn.2.2.1 35 = upd (v0.2.2.1 35) (fV r + q.length) x2 := by
    rw [hA 35, ← hv.2.2.1 35 (by decide)]; rfl
  have e36 : vn.2.2.1 36 = upd (v0.2.2.1 36) (fV r + q.length) (if fn.2.1 = 3 then 1 else 0) := by
    rw [hA 36, ← hv.2.2.1 36 (by decide)]; rfl
  have e20 : vn.2.2.1 20 = v0.2.2.1 20 := hV1.2.2.1 20 (by decide)
  have hlq : q.length = x.2.2.length := by rw [hq, hQ, List.length_cons, List.length_cons]
  have hlow : ∀ i, ¬ i = fV r + q.length → vn.2.2.1 33 i = v0.2.2.1 33 i ∧ vn.2.2.1 34 i = v0.2.2.1 34 i ∧ vn.2.2.1 35 i = v0.2.2.1 35 i ∧ vn.2.2.1 36 i = v0.2.2.1 36 i := fun i hi => by
    rw [e33, e34, e35, e36, ya_j hi, ya_j hi, ya_j hi, ya_j hi]
    exact ⟨rfl, rfl, rfl, rfl⟩
  obtain ⟨a1, a2, a3, a4, a5, a6, a7⟩ := h3.1
  refine rx_jump h rfl hu hV1 (fun i hi => hlow i (by omega)) hst hj (fun y => by cases y) ?_ ?_ ?_ ?_ ⟨htn, ?_, h7.2.2⟩ ⟨h0.1, ?_, ?_⟩ hp
  · intro d g hg
    have hg : (fn :: q)[d]? = some g := hg
    cases d with
    | zero => cases hg; exact hfd
    | succ d =>
      have hg : q[d]? = some g := hg
      rw [hq] at hg
      cases d with
      | zero => cases hg; exact hd
      | succ d => exact a6.2.2.1 (d + 1) g (by rw [hQ]; exact hg)
  · intro d g hg
    have hg : (fn :: q)[d]? = some g := hg
    show vn.2.2.1 34 (fV r + ((fn :: q).length - 1 - d)) = _ ∧ vn.2.2.1 35 (fV r + ((fn :: q).length - 1 - d)) = nI (fN LL r + (LL x.1).length + sq_h ((fn :: q).drop (d + 1))) ∧ vn.2.2.1 36 (fV r + ((fn :: q).length - 1 - d)) = _ ∧ (_ → vn.2.2.1 33 (fV r + ((fn :: q).length - 1 - d)) = _)
    cases d with
    | zero =>
      cases hg
      rw [show (fn :: q).length - 1 - 0 = q.length from rfl, e34, e35, e36, e33, ya_t, ya_t, ya_t, ya_t, e20]
      exact ⟨rfl, h35, rfl, fun _ => h33⟩
    | succ d =>
      have hg : q[d]? = some g := hg
      have hdl := yl_lt hg
      have ei : (fn :: q).length - 1 - (d + 1) = q.length - 1 - d := by rw [List.length_cons]; omega
      obtain ⟨l1, l2, l3, l4⟩ := hlow (fV r + (q.length - 1 - d)) (by omega)
      have hW : rW T z AA x.1 q (fV r) (fN LL r + (LL x.1).length) v0 := by
        rw [hq]; rw [hQ] at a5
        exact rW_tp a5 ⟨rfl, rfl, rfl⟩
      rw [ei, l1, l2, l3, l4, e20]
      exact hW d g hg
  · have e : fW LL ((x.1, j', fn :: q) :: r) = (fW LL r ++ LL x.1) ++ (sq_f q ++ ps) := by
      show fW LL r ++ (LL x.1 ++ (sq_f q ++ fn.2.2.2.2.reverse)) = _
      rw [hfs, List.reverse_reverse, List.append_assoc (fW LL r)]
    rw [e]
    exact RS_fv (RS_fv hRS vW_f (by decide)) hvn (by decide)
  · rw [hvn.1 28 (by decide)]; rfl
  · rw [hvn.2.1 2 (by decide), vW_f.2.1 2 (by decide), hv.2.1 2 (by decide)]; exact h7.2.1
  · rw [hvn.1 29 (by decide), vW_f.1 29 (by decide)]; exact h0.2.1
  · rw [hvn.1 6 (by decide), vW_f.1 6 (by decide)]; exact h0.2.2
end
