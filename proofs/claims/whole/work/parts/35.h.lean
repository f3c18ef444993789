section
variable {α β γ δ σ τ : Type} {B : Nat → Int32} {u v w u' v' u0 v0 : xk_St} {T : List (Nat × List Nat × List Nat)} {F : List Nat} {G : List (Nat × Nat × Nat × Int64)} {L W0 : List Nat} {n fu tc mc lim p q len f D k tn tn' j d b g m : Nat} {z : Nat → Nat} {LL : Nat → List Nat} {AA : Nat → sBo} {tt : Nat → Nat} {H H' : rH} {fs r rr : List rFr} {x x' : rFr} {c : Nat × List Nat × List Nat} {y : Nat × sIn} {Q Qn Q1 : List sFr} {P : List rFr → Nat → Prop} {R : List Nat}
theorem lN_mask (y : Int64) : y &&& 4294967295 = lN (y.toUInt64.toNat % 2 ^ 32) := by
  apply Int64.toBitVec_inj.mp
  rw [Int64.toBitVec_and]
  apply BitVec.eq_of_toNat_eq
  have e : (lN (y.toUInt64.toNat % 2 ^ 32)).toBitVec = BitVec.ofNat 64 (y.toUInt64.toNat % 2 ^ 32) := rfl
  rw [e, BitVec.toNat_ofNat, BitVec.toNat_and]
  have e2 : (4294967295 : Int64).toBitVec.toNat = 2 ^ 32 - 1 := by decide
  rw [e2, Nat.and_two_pow_sub_one_eq_mod]
  have e3 : y.toUInt64.toNat = y.toBitVec.toNat := rfl
  rw [e3]
  have := Nat.mod_lt y.toBitVec.toNat (show 2 ^ 32 > 0 by decide)
  omega
theorem lN_maskE (y : Int64) : ∃ m, m < 2 ^ 32 ∧ y &&& 4294967295 = lN m := ⟨_, Nat.mod_lt _ (by decide), lN_mask y⟩
/-- a way of a table, read again by the reference -/
theorem mt_265 {ds : List Nat} {lim : Nat} {q1 : Nat} (hfu : 20 ≤ fu) (hm : m < ds.length) (hl : ds.length ≤ 8192) : ∀ (j k p n : Nat) (v : xk_St), k + j = m + 1 → j < n → ym_st B lim p v → v.1 6 = 0 → v.1 11 = nI ds.length → yp_rep (yp_N B lim) (ds.length - k) p = .inl (ds.drop k, q1) → (∀ d, 0 < k → ds[k - 1]? = some d → v.2.1 0 = lN d) → ∃ v', jb_Model_doWays_265 fu n (lN m) (lN k) v = jb_Model_doWays_296 fu v' ∧ yf_fr [4] [0] [] [] v v' ∧ ∀ d, ds[m]? = some d → v'.2.1 0 = lN d := by
  intro j
  induction j with
  | zero =>
    intro k p n v hk hn hst h6 h11 hr hJ
    obtain ⟨n, rfl⟩ : ∃ n', n = n' + 1 := ⟨n - 1, by omega⟩
    refine ⟨v, ?_, yf_refl, fun d hd => hJ d (by omega) (by rw [show k - 1 = m by omega]; exact hd)⟩
    conv => lhs; unfold jb_Model_doWays_265
    simp only [xs_let]
    rw [h11, if_neg (fun y => by have := (lN_ge (by omega) (by omega)).mp y; omega), if_pos ((pk_lLT (by omega) (by omega)).mpr (by omega))]
  | succ j ih =>
    intro k p n v hk hn hst h6 h11 hr hJ
    obtain ⟨n, rfl⟩ : ∃ n', n = n' + 1 := ⟨n - 1, by omega⟩
    obtain ⟨d, hd⟩ := yl_get (l := ds) (k := k) (by omega)
    have hdr : ds.drop k = d :: ds.drop (k + 1) := by
      obtain ⟨hlt, e⟩ := List.getElem?_eq_some_iff.mp hd
      rw [List.drop_eq_getElem_cons hlt, e]
    rw [show ds.length - k = (ds.length - (k + 1)) + 1 by omega, hdr] at hr
    have hr : yp_then (yp_N B lim p) (fun a q => yp_then (yp_rep (yp_N B lim) (ds.length - (k + 1)) q) fun l r => .inl (a :: l, r)) = .inl (d :: ds.drop (k + 1), q1) := hr
    obtain ⟨a, q, e1, hr⟩ := yp_thenI hr
    obtain ⟨l, r', e2, hr⟩ := yp_thenI hr
    cases hr
    have hq := (yp_N_eats' (lim := lim) (B := B)) p d q e1
    have e3 := mk_N hfu hst h6 e1
    have hst' : ym_st B lim q (xs_J (xs_I v 4 (nI q)) 0 (lN d)) := ⟨hst.1, rfl, hst.2.2.1, hq.2, hst.2.2.2.2⟩
    obtain ⟨v', k1, k2, k3⟩ := ih (k + 1) q n (xs_J (xs_I v 4 (nI q)) 0 (lN d)) (by omega) (by omega) hst' h6 h11 e2 (fun d' _ hd' => by
      rw [show k + 1 - 1 = k from rfl, hd] at hd'
      cases hd'; rfl)
    refine ⟨v', ?_, yf_trans (yf_mono (yf_J (yf_I (I := [4]) (J := [0]) (A := []) (B := []) yf_refl (by decide)) (by decide)) (by decide)) k2, k3⟩
    conv => lhs; unfold jb_Model_doWays_265
    simp only [xs_let]
    rw [h11, if_neg (fun y => by have := (lN_ge (by omega) (by omega)).mp y; omega), if_neg (fun y => by have := (pk_lLT (by omega) (by omega)).mp y; omega), e3, ys_seq]
    have : lN k + 1 = lN (k + 1) := lN_add (a := k) (b := 1)
    rw [this]
    exact k1
/-- a way is gone after values were taken off -/
theorem rz_brq {f0 ft : sFr} {q Q2 : List sFr} {s : List Nat} {u1 w1 : xk_St} (hfu : 18000 < fu) (h : RX D B len T F tc mc G z LL AA tt H (x :: r) tn u v) (hQ : x.2.2 = f0 :: q) (hd : f0.2.2.2.1 = false) (hft : (sf_s f0 s :: q)[m]? = some ft) (ht : sq_takes (yl_f T) (sb_lab T ft).reverse (sf_s f0 s :: q) = some Q2) (hu : yf_fr [26, 27, 28] [] [37] [10] u u1) (hv : yf_fr [4, 6, 8, 9, 10, 11, 23, 26, 29] [0, 1] [29] [3] v w1) (hu7 : u1.1 27 = 0) (hv9 : w1.1 29 = 0) (hv6 : w1.1 6 = 0) (hRS : RS T H ((fW LL r ++ LL x.1) ++ sq_f (sf_s f0 s :: q)) u1 w1) (hP : rPs P x r tn) (hR : ∀ c, r = [] → T[tt x.1]? = some c → R = c.2.2) : (∃ fx, x.2.2[m]? = some fx ∧ fx.1 = ft.1 ∧ sb_lab T fx = sb_lab T ft) ∧ RZ D B len T F tc mc G z LL AA tt P R (fm_Machine_branch fu (nI ft.1.1) u1) (fm_Model_goOut fu (nI m) w1) := by
  have hdl := yl_lt hft
  obtain ⟨fx, hfx⟩ := yl_get (l := x.2.2) (k := m) (by rw [hQ]; exact hdl)
  have hsm : fx.1 = ft.1 ∧ sb_lab T fx = sb_lab T ft ∧ x.2.2.drop (m + 1) = (sf_s f0 s :: q).drop (m + 1) := by
    rw [hQ] at hfx ⊢
    cases m with
    | zero => cases hfx; cases hft; exact ⟨rfl, rfl, rfl⟩
    | succ m =>
      have hft : q[m]? = some ft := hft
      have hfx : q[m]? = some fx := hfx
      rw [hft] at hfx; cases hfx
      exact ⟨rfl, rfl, rfl⟩
  refine ⟨⟨fx, hfx, hsm.1, hsm.2.1⟩, ?_⟩
  have hd0 : (sf_s f0 s).2.2.2.1 = false := hd
  obtain ⟨Y, hY⟩ := RS_lab (d := m) hRS ht hd0 (fun w hw => (rx_lab h hfx).1 w (by rw [hsm.2.1]; exact hw))
  rw [← hsm.1]
  refine rz_branch (Y := Y) hfu h hu hv hu7 hv9 hv6 hfx ?_ hP.1 hP.2.1 hP.2.2 hR
  rw [hsm.2.1, hsm.2.2]
  have : fW LL r ++ (LL x.1 ++ (sq_f ((sf_s f0 s :: q).drop (m + 1)) ++ (Y ++ sb_lab T ft))) = (fW LL r ++ LL x.1) ++ (sq_f ((sf_s f0 s :: q).drop (m + 1)) ++ (Y ++ sb_lab T ft)) := by rw [List.append_assoc]
  rw [this]; exact hY
/-- 0x0e -/
theorem ri_14 (hfu : 18000 < fu) (h : rFt D B len T F tc mc G z LL AA tt H x r tn y Qn u v w) (hi : y.2.1 = 14) (hP : rPs P x r tn) (hR : ∀ c, r = [] → T[tt x.1]? = some c → R = c.2.2) : RZ D B len T F tc mc G z LL AA tt P R (fm_Machine_step fu (u.2.2.1 7 (kF z AA x)) (nI (kF z AA x)) (uF z AA x u)) (mr_st fu w) := by
  have h7 : u.2.2.1 7 (kF z AA x) = nI 14 := by rw [h.2.1.2.2.1.1, if_neg (by omega), hi]
  have h8 : w.1 8 = nI 14 := by rw [h.2.2.2.1.2.2.2.1, if_pos (by omega), hi]
  have hk : kF z AA x < 8192 := h.2.1.2.2.2.2.2.2.2.1
  obtain ⟨last, m1, m2⟩ := h.2.1.2.2.2.2.2.2.1.2.2.2.2.1 (by rw [hi]; decide +kernel)
  obtain ⟨f0, q, hQ, hd⟩ := rf_Q h
  obtain ⟨z1, z2, z3, z4, z5⟩ := rf_0 h
  have hs := h.2.1.2.1
  unfold sq_step at hs
  rw [if_neg (by omega), if_neg (by omega), if_neg (by omega), if_neg (by omega), if_neg (by omega), if_neg (by omega), if_neg (by omega), if_neg (by omega), if_pos hi, m2, yx_lN (by omega), hQ] at hs
  obtain ⟨Q0, ht0, hs⟩ := Option.bind_eq_some_iff.mp hs
  obtain ⟨ft, hft, hs⟩ := Option.bind_eq_some_iff.mp hs
  obtain ⟨_, hw, -⟩ := Option.bind_eq_some_iff.mp hs
  rw [sq_waysA] at hw
  obtain ⟨hways, -⟩ := xp_if hw
  obtain ⟨s, yv, a3, p1, p2, p3, p4⟩ := rf_cond (rf_RS' h hQ) ht0 hd
  obtain ⟨s8, b1, b2, b3, b4⟩ := h.2.1.2.2.1.2.2.2.2.2.2.1 hi
  rw [m2, yx_lN (by omega)] at b4
  obtain ⟨m, hm, ey⟩ := lN_maskE yv
  have hlen := h.1.1.2.2.2.2.2.2.1
  obtain ⟨y1, q1, y2⟩ := yp_ins14 h.2.1.2.2.2.2.2.1 hi
  obtain ⟨w10, w11⟩ := h.2.2.2.1.2.2.1 hi
  have hdl : y.2.2.2.2.2.length ≤ 8192 := by omega
  generalize hds : y.2.2.2.2.2 = ds at *
  -- the way that is taken
  obtain ⟨c, hc⟩ := yl_get (l := ds ++ [last]) (k := min ds.length m) (by rw [List.length_append, List.length_singleton]; omega)
  obtain ⟨fc, hfc, hAc⟩ := b4 _ c hc
  have hQ100 : x.2.2.length ≤ 100 := h.1.2.2.1.1.2.2.2.2.2.1.2.2.2.2.1
  have hcl := yl_lt hfc
  have hcm := hways c (List.mem_of_getElem? hc)
  rw [a3] at hcm p4
  have hl0 : (sf_s f0 s :: q).length = x.2.2.length := by rw [hQ, List.length_cons, List.length_cons]
  obtain ⟨fc', hfc', hl', hth⟩ : ∃ f2, (sf_s f0 s :: q)[c]? = some f2 ∧ (sb_lab T f2).length = (sb_lab T ft).length ∧ sq_there T (sf_s f0 s :: q) (sb_lab T f2) := hcm
  obtain ⟨st, hta⟩ := sq_thereT (L := (sb_lab T fc').reverse) (by rw [List.reverse_reverse]; exact hth)
  have e1 : fm_Machine_step fu (nI 14) (nI (kF z AA x)) (uF z AA x u) = fm_Machine_branch fu (nI fc.1.1) (xs_I (uF z AA x u) 28 (nI ((fW LL r ++ LL x.1) ++ sq_f Q0).length)) := by
    have : fm_Machine_step fu (nI 14) (nI (kF z AA x)) (uF z AA x u) = xs_seq (xs_seq (fm_Values_pop__h61 (uF z AA x u)) fun a12 u13 => if nI (kF z AA x) < 0 ∨ 8192 ≤ (nI (kF z AA x)).toNatClampNeg then none else xs_let (if u13.2.2.2 2 (nI (kF z AA x)).toNatClampNeg < a12 &&& (4294967295 : Int64) then u13.2.2.2 2 (nI (kF z AA x)).toNatClampNeg else a12 &&& (4294967295 : Int64)) fun a14 => if nI (kF z AA x) < 0 ∨ 8192 ≤ (nI (kF z AA x)).toNatClampNeg then none else if ((u13.2.2.1 8 (nI (kF z AA x)).toNatClampNeg) + (a14.toInt32)) < 0 ∨ 8192 ≤ ((u13.2.2.1 8 (nI (kF z AA x)).toNatClampNeg) + (a14.toInt32)).toNatClampNeg then none else xs_seq (fm_Machine_branch fu (u13.2.2.1 11 ((u13.2.2.1 8 (nI (kF z AA x)).toNatClampNeg) + (a14.toInt32)).toNatClampNeg) u13) fun _ u15 => some ((()), u15)) fun _ u9 => some ((), u9) := rfl
    rw [this, xs_id, p1, ys_seq, ix8192 hk]
    simp only [xs_let]
    rw [ix8192 hk, show (nI (kF z AA x)).toNatClampNeg = kF z AA x from nI_clamp (by omega), xs_id, ey]
    have g1 : ∀ k, (xs_I (uF z AA x u) 28 k).2.2.2 2 (kF z AA x) = lN ds.length := fun k => b3
    have g2 : ∀ k, (xs_I (uF z AA x u) 28 k).2.2.1 8 (kF z AA x) = nI s8 := fun k => b1
    rw [g1, g2]
    have g3 : (if lN ds.length < lN m then lN ds.length else lN m) = lN (min ds.length m) := by
      by_cases t : ds.length < m
      · rw [if_pos ((pk_lLT (by omega) (by omega)).mpr t), Nat.min_eq_left (by omega)]
      · rw [if_neg (fun t' => t ((pk_lLT (by omega) (by omega)).mp t')), Nat.min_eq_right (by omega)]
    rw [g3, sb_nLi (by omega), nI_add, ix8192 (by omega), show (nI (s8 + min ds.length m)).toNatClampNeg = s8 + min ds.length m from nI_clamp (by omega)]
    have g4 : ∀ k, (xs_I (uF z AA x u) 28 k).2.2.1 11 (s8 + min ds.length m) = nI fc.1.1 := fun k => hAc
    rw [g4]
  -- and by the reference
  have e0 : ∃ w1, mr_st fu w = fm_Model_goOut fu (nI c) w1 ∧ yf_fr [4] [0] [] [] (xs_I w 26 (nI ((fW LL r ++ LL x.1) ++ sq_f Q0).length)) w1 := by
    have e2 : mr_st fu w = jb_Model_doWays_265 fu fu (lN m) 0 (xs_I (xs_I w 26 (nI ((fW LL r ++ LL x.1) ++ sq_f Q0).length)) 4 (nI y.2.2.2.2.1)) := by
      unfold mr_st fm_Model_doWays
      simp only [xs_let]
      rw [h8]
      show (xs_seq (fm_Model_drop w) fun a12 u13 => jb_Model_doWays_265 fu fu (a12 &&& (4294967295 : Int64)) (0 : Int64) (xs_I u13 4 (u13.1 10))) = _
      rw [p2, ys_seq, ey]
      have : (xs_I w 26 (nI ((fW LL r ++ LL x.1) ++ sq_f Q0).length)).1 10 = nI y.2.2.2.2.1 := w10
      rw [this]
    by_cases t : ds.length ≤ m
    · have hcl : c = last := by
        rw [Nat.min_eq_left t, List.getElem?_append_right (Nat.le_refl _), Nat.sub_self] at hc
        cases hc; rfl
      refine ⟨xs_I (xs_I w 26 (nI ((fW LL r ++ LL x.1) ++ sq_f Q0).length)) 4 (nI y.2.2.2.2.1), ?_, yf_I yf_refl (by decide)⟩
      rw [e2]
      obtain ⟨n, rfl⟩ : ∃ n, fu = n + 1 := ⟨fu - 1, by omega⟩
      conv => lhs; unfold jb_Model_doWays_265
      simp only [xs_let]
      have g1 : ∀ k k', (xs_I (xs_I w 26 k) 4 k').1 11 = nI ds.length := fun _ _ => w11
      rw [g1, if_pos ((lN_ge (by omega) (by omega)).mpr t)]
      unfold jb_Model_doWays_296
      have g2 : ∀ k k', (xs_I (xs_I w 26 k) 4 k').2.1 0 = lN last := fun _ _ => by
        show w.2.1 0 = _
        rw [h.2.2.2.1.1, m2]; rfl
      rw [g2, xs_id, hcl, sb_nLi (by omega)]
    · have hst0 : ym_st B len y.2.2.2.2.1 (xs_I (xs_I w 26 (nI ((fW LL r ++ LL x.1) ++ sq_f Q0).length)) 4 (nI y.2.2.2.2.1)) := by
        have t1 := h.2.2.2.2.2.2.2
        exact ⟨t1.1, rfl, t1.2.2.1, y1, hlen⟩
      obtain ⟨v', k1, k2, k3⟩ := mt_265 (fu := fu) (m := m) (ds := ds) (by omega) (by omega) hdl (m + 1) 0 y.2.2.2.2.1 fu _ (by omega) (by omega) hst0 z3 w11 y2 (fun _ t => absurd t (by omega))
      refine ⟨v', ?_, yf_trans (yf_I yf_refl (by decide)) k2⟩
      rw [e2]
      have k1 : jb_Model_doWays_265 fu fu (lN m) 0 _ = _ := k1
      rw [k1]
      unfold jb_Model_doWays_296
      have hcm : ds[m]? = some c := by
        rw [Nat.min_eq_right (by omega), List.getElem?_append_left (by omega)] at hc
        exact hc
      rw [k3 c hcm, xs_id, sb_nLi (by omega)]
  obtain ⟨w1, e2, e3⟩ := e0
  have hw1 : yf_fr [4, 6, 8, 9, 10, 11, 23, 26, 29] [0, 1] [29] [3] v w1 := yf_trans (yf_I z5 (by decide)) (yf_mono e3 (by decide))
  have hRS1 : RS T H ((fW LL r ++ LL x.1) ++ sq_f (sf_s f0 s :: q)) (xs_I (uF z AA x u) 28 (nI ((fW LL r ++ LL x.1) ++ sq_f Q0).length)) w1 := by
    rw [a3] at e3 ⊢
    exact RS_fv p4 e3 (by decide)
  obtain ⟨⟨fx, r1, r2, -⟩, r3⟩ := rz_brq (R := R) (u1 := xs_I (uF z AA x u) 28 (nI ((fW LL r ++ LL x.1) ++ sq_f Q0).length)) hfu h.1 hQ hd hfc' hta (yf_I z4 (by decide)) hw1 z1 (by rw [e3.1 29 (by decide)]; exact z2) (by rw [e3.1 6 (by decide)]; exact z3) hRS1 hP hR
  rw [hfc] at r1
  cases r1
  rw [h7, e1, e2, r2]
  exact r3
end
