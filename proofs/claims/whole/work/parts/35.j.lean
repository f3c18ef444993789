section
variable {α β γ δ σ τ : Type} {B : Nat → Int32} {u v w u' v' u0 v0 : xk_St} {T : List (Nat × List Nat × List Nat)} {F : List Nat} {G : List (Nat × Nat × Nat × Int64)} {L W0 : List Nat} {n fu tc mc lim p q len f D k tn tn' j d b g m : Nat} {z : Nat → Nat} {LL : Nat → List Nat} {AA : Nat → sBo} {tt : Nat → Nat} {H H' : rH} {fs r rr : List rFr} {x x' : rFr} {c : Nat × List Nat × List Nat} {y : Nat × sIn} {Q Qn Q1 : List sFr} {P : List rFr → Nat → Prop} {R : List Nat}
theorem rs_tt (h : rSt D B len T F tc mc G z LL AA tt u v) (hg : g < F.length) : F[g]? = some (tt g) ∧ ∃ c, T[tt g]? = some c ∧ c.1 = 96 := by
  obtain ⟨⟨c, hc⟩, -⟩ := h.2.2.2.2.2.2.2 g hg
  exact ⟨hc.1, c, hc.2.1, hc.2.2.1⟩
theorem ty_b (hE : yTM T v) {k : Nat} (hc : T[k]? = some c) : (∀ a, a ∈ c.2.1 → a < 150) ∧ ∀ a, a ∈ c.2.2 → a < 150 := by
  have g := yTM_g hE k c hc
  refine ⟨fun a ha => ?_, fun a ha => ?_⟩
  · obtain ⟨m, hm⟩ := List.getElem?_of_mem ha
    have := g.2.1 m a hm
    omega
  · obtain ⟨m, hm⟩ := List.getElem?_of_mem ha
    by_cases t : c.1 = 96
    · have := g.2.2.1 t m a hm
      omega
    · have := (g.2.2.2.1 t).2 m a hm
      omega
/-- 0x10 -/
theorem ri_16 {P : Nat → List rFr → Nat → Prop} (hfu : 18000 < fu) (h : rFt D B len T F tc mc G z LL AA tt H x r tn y Qn u v w) (hi : y.2.1 = 16) (hP : ∀ g Qa tn', g < F.length → tn = tn' + 1 → P (AA g).2.1.length ((g, 0, sq_0 (z g) (tt g)) :: (x.1, x.2.1 + 1, Qa) :: r) tn') : RZc fu D B len T F tc mc G z LL AA tt P R (fm_Machine_step fu (u.2.2.1 7 (kF z AA x)) (nI (kF z AA x)) (uF z AA x u)) (mr_st fu w) := by
  have h7 : u.2.2.1 7 (kF z AA x) = nI 16 := by rw [h.2.1.2.2.1.1, if_neg (by omega), hi]
  have h8 : w.1 8 = nI 16 := by rw [h.2.2.2.1.2.2.2.1, if_pos (by omega), hi]
  have hk : kF z AA x < 8192 := h.2.1.2.2.2.2.2.2.2.1
  obtain ⟨m, m1, m2, -⟩ := h.2.1.2.2.2.2.2.2.1.2.2.2.2.2.2.1 (by rw [hi]; decide +kernel)
  obtain ⟨f0, q, hQ, hd⟩ := rf_Q h
  obtain ⟨z1, z2, z3, z4, z5⟩ := rf_0 h
  have hs := h.2.1.2.1
  unfold sq_step at hs
  rw [if_neg (by omega), if_neg (by omega), if_neg (by omega), if_neg (by omega), if_neg (by omega), if_neg (by omega), if_neg (by omega), if_neg (by omega), if_neg (by omega), if_neg (by omega), if_pos hi, m2, yx_lN (by omega), hQ] at hs
  obtain ⟨t, hF, hs⟩ := Option.bind_eq_some_iff.mp hs
  obtain ⟨c, hc, hs⟩ := Option.bind_eq_some_iff.mp hs
  obtain ⟨Q1, hta, hpu⟩ := Option.bind_eq_some_iff.mp (show (sq_takes (yl_f T) c.2.1.reverse (f0 :: q)).bind (sq_pushes c.2.2) = some Qn from hs)
  have hm := yl_lt hF
  have hF64 := h.1.1.2.1.2.1
  obtain ⟨t1, -⟩ := rs_tt h.1.1 hm
  rw [hF] at t1
  cases t1
  have hb := ty_b h.1.1.2.2.1 hc
  obtain ⟨r1, s, r2⟩ := RS_par (rf_RS' h hQ) hta hd hb.1
  obtain ⟨ds, s', k1, -, -, k2⟩ := sq_takesW hta hd
  have ess : s = s' := by
    rw [r2] at k2
    injection k2 with k3
    have : (sf_s f0 s).2.2.2.2 = (sf_s f0 s').2.2.2.2 := by rw [k3]
    exact this
  subst ess
  rw [r2] at r1 hpu
  obtain ⟨ns, h8k⟩ := h.2.1.2.2.1.2.1
  have e8 : u.2.2.1 8 (kF z AA x) = nI m := by
    rw [h8k]
    unfold ye_1
    rw [hi, if_neg (by decide +kernel), if_neg (by decide +kernel), if_neg (by decide +kernel), if_pos (by decide +kernel), m2, yx_lN (by omega), yn_cs (by omega)]
  have e0 : mr_st fu w = fm_Model_enter fu (nI m) (w.1 4) w := by
    unfold mr_st fm_Model_doWays
    simp only [xs_let]
    rw [h8]
    show (xs_seq (fm_Model_enter fu ((w.2.1 0).toInt32) (w.1 4) w) fun _ u22 => some ((()), u22)) = _
    rw [xs_id, h.2.2.2.1.1, m2]
    show fm_Model_enter fu ((lN m).toInt32) (w.1 4) w = _
    rw [sb_nLi (by omega)]
  have e1 : fm_Machine_step fu (nI 16) (nI (kF z AA x)) (uF z AA x u) = fm_Machine_enter (nI m) (uF z AA x u) := by
    have : fm_Machine_step fu (nI 16) (nI (kF z AA x)) (uF z AA x u) = (if nI (kF z AA x) < 0 ∨ 8192 ≤ (nI (kF z AA x)).toNatClampNeg then none else xs_seq (xs_seq (fm_Machine_enter ((uF z AA x u).2.2.1 8 (nI (kF z AA x)).toNatClampNeg) (uF z AA x u)) fun _ u1 => some ((), u1)) fun _ u8 => some ((), u8)) := rfl
    rw [this, ix8192 hk, xs_id, xs_id, show (nI (kF z AA x)).toNatClampNeg = kF z AA x from nI_clamp (by omega)]
    have : (uF z AA x u).2.2.1 8 (kF z AA x) = nI m := e8
    rw [this]
  rw [h7, e0, e1]
  exact rz_call (ps := c.2.2) hfu h hQ ⟨ds, k1⟩ z4 z5 z1 z2 z3 rfl hm hc r1 ⟨rfl, fun i a b h1 h2 => Or.inl (by rw [h1] at h2; cases h2; rfl)⟩ hpu (fun tn' e => hP m _ tn' hm e)
/-- 0x11 -/
theorem ri_17 {P : Nat → List rFr → Nat → Prop} (hfu : 18000 < fu) (h : rFt D B len T F tc mc G z LL AA tt H x r tn y Qn u v w) (hi : y.2.1 = 17) (hP : ∀ g Qa tn', g < F.length → tn = tn' + 1 → P (AA g).2.1.length ((g, 0, sq_0 (z g) (tt g)) :: (x.1, x.2.1 + 1, Qa) :: r) tn') : RZc fu D B len T F tc mc G z LL AA tt P R (fm_Machine_step fu (u.2.2.1 7 (kF z AA x)) (nI (kF z AA x)) (uF z AA x u)) (mr_st fu w) := by
  have h7 : u.2.2.1 7 (kF z AA x) = nI 17 := by rw [h.2.1.2.2.1.1, if_neg (by omega), hi]
  have h8 : w.1 8 = nI 17 := by rw [h.2.2.2.1.2.2.2.1, if_pos (by omega), hi]
  have hk : kF z AA x < 8192 := h.2.1.2.2.2.2.2.2.2.1
  obtain ⟨ti, x1, m1, mx, m2, m3⟩ := h.2.1.2.2.2.2.2.2.1.2.2.2.2.2.2.2 (by rw [hi]; decide +kernel)
  obtain ⟨f0, q, hQ, hd⟩ := rf_Q h
  obtain ⟨z1, z2, z3, z4, z5⟩ := rf_0 h
  have hs := h.2.1.2.1
  unfold sq_step at hs
  rw [if_neg (by omega), if_neg (by omega), if_neg (by omega), if_neg (by omega), if_neg (by omega), if_neg (by omega), if_neg (by omega), if_neg (by omega), if_neg (by omega), if_neg (by omega), if_neg (by omega), if_pos hi, m2, yx_lN (by omega), hQ] at hs
  obtain ⟨c, hc, hs⟩ := Option.bind_eq_some_iff.mp hs
  obtain ⟨⟨hc96, htc, -⟩, hs⟩ := xp_if hs
  obtain ⟨Q1, hta0, hpu⟩ := Option.bind_eq_some_iff.mp (show (sq_takes (yl_f T) (1 :: c.2.1.reverse) (f0 :: q)).bind (sq_pushes c.2.2) = some Qn from hs)
  obtain ⟨Q0, ht0, hta⟩ := Option.bind_eq_some_iff.mp (show (sq_take (yl_f T) 1 (f0 :: q)).bind (sq_takes (yl_f T) c.2.1.reverse) = some Q1 from hta0)
  obtain ⟨s, yv, a3, p1, p2, p3, p4⟩ := rf_cond (rf_RS' h hQ) ht0 hd
  have hti := yl_lt hc
  have hT64 : T.length ≤ 64 := h.1.1.2.2.1.2.1.1
  have hb := ty_b h.1.1.2.2.1 hc
  have hd0 : (sf_s f0 s).2.2.2.1 = false := hd
  have p4' := p4
  rw [a3] at hta p4'
  obtain ⟨r1, s', r2⟩ := RS_par p4' hta hd0 hb.1
  obtain ⟨ds, s2, k1, -, -, k2⟩ := sq_takesW hta hd0
  have ess : s' = s2 := by
    rw [r2] at k2
    injection k2 with k3
    have : (sf_s (sf_s f0 s) s').2.2.2.2 = (sf_s (sf_s f0 s) s2).2.2.2.2 := by rw [k3]
    exact this
  subst ess
  have r2 : Q1 = sf_s f0 s' :: q := r2
  rw [r2] at r1 hpu
  obtain ⟨c0, s0, j1, -, j3⟩ := sq_take1 ht0 hd
  have es0 : s = s0 := by
    rw [a3] at j3
    injection j3 with j4
    have : (sf_s f0 s).2.2.2.2 = (sf_s f0 s0).2.2.2.2 := by rw [j4]
    exact this
  have hds : ∃ ds, f0.2.2.2.2 = ds ++ s' := ⟨c0 :: ds, by
    have k1 : s = ds ++ s' := k1
    rw [j1, ← es0, k1]; rfl⟩
  obtain ⟨m, hm, ey⟩ := lN_maskE yv
  -- the table
  obtain ⟨hRT, nt, hn64, hv24, -, hu16⟩ := h.1.2.2.2.2.1.2.2.2
  have hu11 : u.1 11 = 1 := by rw [h.1.1.2.1.2.2.2.1.1, htc]; rfl
  have e8 : u.2.2.1 8 (kF z AA x) = nI ti := by
    obtain ⟨ns, h8k⟩ := h.2.1.2.2.1.2.1
    rw [h8k]
    unfold ye_1
    rw [hi, if_neg (by decide +kernel), if_neg (by decide +kernel), if_neg (by decide +kernel), if_pos (by decide +kernel), m2, yx_lN (by omega), yn_cs (by omega)]
  have w24 : w.1 24 = nI nt := by rw [h.2.2.1.1 24 (by decide)]; exact hv24
  have w28 : ∀ i, w.2.2.1 28 i = v.2.2.1 28 i := fun i => by rw [h.2.2.1.2.2.1 28 (by decide)]
  have w9 : ∀ i, w.2.2.1 9 i = v.2.2.1 9 i := fun i => by rw [h.2.2.1.2.2.1 9 (by decide)]
  have w8 : ∀ i, w.2.2.1 8 i = v.2.2.1 8 i := fun i => by rw [h.2.2.1.2.2.1 8 (by decide)]
  have hJ0 : (w.2.1 0).toInt32 = nI ti := by
    rw [h.2.2.2.1.1, m2]
    show (lN ti).toInt32 = _
    rw [sb_nLi (by omega)]
  rw [← a3] at r1
  generalize hU1 : xs_I (uF z AA x u) 28 (nI ((fW LL r ++ LL x.1) ++ sq_f Q0).length) = u1 at *
  generalize hW1 : xs_I w 26 (nI ((fW LL r ++ LL x.1) ++ sq_f Q0).length) = w1 at *
  have fU1 : yf_fr [26, 27, 28] [] [37] [10] u u1 := by rw [← hU1]; exact yf_I z4 (by decide)
  have fW1 : yf_fr [4, 6, 8, 9, 10, 11, 23, 26, 29] [0, 1] [29] [3] v w1 := by rw [← hW1]; exact yf_I z5 (by decide)
  have fwW : yf_fr [26] [] [] [] w w1 := by rw [← hW1]; exact yf_I yf_refl (by decide)
  have e0 : mr_st fu w = if nt ≤ m then some ((), xs_I w1 29 5) else if nI m < 0 ∨ 64 ≤ (nI m).toNatClampNeg then none else jb_Model_callByTable_30 fu (lN m) (v.2.2.1 28 m) w1 := by
    have : mr_st fu w = fm_Model_callByTable fu w := by
      unfold mr_st fm_Model_doWays
      simp only [xs_let]
      rw [h8]
      show (xs_seq (fm_Model_callByTable fu w) fun _ u23 => some ((()), u23)) = _
      rw [xs_id]
    rw [this]
    unfold fm_Model_callByTable
    simp only [xs_let]
    rw [p2, ys_seq, ey, fwW.1 24 (by decide), w24]
    by_cases t : nt ≤ m
    · rw [if_pos ((lN_ge (by omega) (by omega)).mpr t), if_pos t]
      unfold jb_Model_callByTable_30
      rw [fwW.1 24 (by decide), w24, nI_toL (by omega), if_neg (fun y => by have := (pk_lLT (by omega) (by omega)).mp y; omega)]
      unfold jb_Model_callByTable_85
      simp only [xs_let]
      rw [if_neg (by show ¬ (5 : Int32) = 0; decide)]
    · rw [if_neg (fun y => t ((lN_ge (by omega) (by omega)).mp y)), if_neg t, sb_nLi (by omega), show (nI m).toNatClampNeg = m from nI_clamp (by omega), fwW.2.2.1 28 (by decide), w28]
  have e1 : fm_Machine_step fu (nI 17) (nI (kF z AA x)) (uF z AA x u) = if m < nt then (if nI m < 0 ∨ 64 ≤ (nI m).toNatClampNeg then none else if u.2.2.1 47 m = -1 then some ((), xs_I u1 27 6) else if u.2.2.1 47 m < 0 ∨ 65 ≤ (u.2.2.1 47 m).toNatClampNeg then none else if u.2.2.1 12 (u.2.2.1 47 m).toNatClampNeg < 0 ∨ 65 ≤ (u.2.2.1 12 (u.2.2.1 47 m).toNatClampNeg).toNatClampNeg then none else if nI ti < 0 ∨ 65 ≤ (nI ti).toNatClampNeg then none else if u.2.2.1 5 (u.2.2.1 12 (u.2.2.1 47 m).toNatClampNeg).toNatClampNeg = u.2.2.1 5 (nI ti).toNatClampNeg then fm_Machine_enter (u.2.2.1 47 m) u1 else some ((), xs_I u1 27 7)) else some ((), xs_I u1 27 5) := by
    have : fm_Machine_step fu (nI 17) (nI (kF z AA x)) (uF z AA x u) = (if nI (kF z AA x) < 0 ∨ 8192 ≤ (nI (kF z AA x)).toNatClampNeg then none else xs_seq (xs_seq (fm_Machine_enterByTable ((uF z AA x u).2.2.1 8 (nI (kF z AA x)).toNatClampNeg) (uF z AA x u)) fun _ u1 => some ((), u1)) fun _ u8 => some ((), u8)) := rfl
    rw [this, ix8192 hk, xs_id, xs_id, show (nI (kF z AA x)).toNatClampNeg = kF z AA x from nI_clamp (by omega)]
    have : (uF z AA x u).2.2.1 8 (kF z AA x) = nI ti := e8
    rw [this]
    unfold fm_Machine_enterByTable
    simp only [xs_let]
    have tp : fm_Mod_tablePlaces u1 = some (nI nt, u1) := by
      unfold fm_Mod_tablePlaces
      rw [fU1.1 11 (by decide), hu11, if_neg (by decide), if_neg (by decide), fU1.2.2.1 16 (by decide)]
      have : u.2.2.1 16 (0 : Int32).toNatClampNeg = nI nt := hu16 htc
      rw [this]
    rw [p1, ys_seq, tp, ys_seq, ey, nI_toL (by omega)]
    by_cases t : m < nt
    · rw [if_pos ((pk_lLT (by omega) (by omega)).mpr t), if_pos t, sb_nLi (by omega), show (nI m).toNatClampNeg = m from nI_clamp (by omega), fU1.2.2.1 47 (by decide), fU1.2.2.1 12 (by decide), fU1.2.2.1 5 (by decide), xs_id]
    · rw [if_neg (fun y => t ((pk_lLT (by omega) (by omega)).mp y)), if_neg t]
  rw [h7, e0, e1]
  have trap : ∀ t, 0 < t → t < 20 → RZc fu D B len T F tc mc G z LL AA tt P R (some ((), xs_I u1 27 (nI t))) (some ((), xs_I w1 29 (nI t))) := fun t t0 t1 => by
    have hU : yf_fr [26, 27, 28] [] [37] [10] u (xs_I u1 27 (nI t)) := yf_I fU1 (by decide)
    have hV : yf_fr [4, 6, 8, 9, 10, 11, 23, 26, 29] [0, 1] [29] [3] v (xs_I w1 29 (nI t)) := yf_I fW1 (by decide)
    exact ⟨_, _, rfl, rfl, Or.inr (Or.inl ⟨H, tn, t, t0, t1, rfl, rfl, rl_fr h.1 hU (by decide) hV (by decide)⟩)⟩
  by_cases t : nt ≤ m
  · rw [if_pos t, if_neg (by omega)]
    exact trap 5 (by decide) (by decide)
  · rw [if_neg t, if_pos (by omega), if_neg (nI_in (N := 64) (by omega) (by decide)), if_neg (nI_in (N := 64) (by omega) (by decide))]
    have e85 : ∀ s k, ¬ k = 0 → jb_Model_callByTable_85 fu s k w1 = some ((), xs_I w1 29 k) := fun s k hk => by
      unfold jb_Model_callByTable_85
      simp only [xs_let]
      rw [if_neg (show ¬ (xs_I w1 29 k).1 29 = 0 from hk)]
    have e30 : jb_Model_callByTable_30 fu (lN m) (v.2.2.1 28 m) w1 = if (0 : Int32) ≤ v.2.2.1 28 m then (if v.2.2.1 28 m < 0 ∨ 64 ≤ (v.2.2.1 28 m).toNatClampNeg then none else if v.2.2.1 9 (v.2.2.1 28 m).toNatClampNeg < 0 ∨ 64 ≤ (v.2.2.1 9 (v.2.2.1 28 m).toNatClampNeg).toNatClampNeg then none else if nI ti < 0 ∨ 64 ≤ (nI ti).toNatClampNeg then none else if v.2.2.1 8 (v.2.2.1 9 (v.2.2.1 28 m).toNatClampNeg).toNatClampNeg = v.2.2.1 8 (nI ti).toNatClampNeg then jb_Model_callByTable_85 fu (v.2.2.1 28 m) 0 w1 else some ((), xs_I w1 29 7)) else some ((), xs_I w1 29 6) := by
      unfold jb_Model_callByTable_30
      rw [fwW.1 24 (by decide), w24, nI_toL (by omega), if_pos ((pk_lLT (by omega) (by omega)).mpr (by omega)), fwW.2.1 0 (by decide), hJ0, fwW.2.2.1 9 (by decide), fwW.2.2.1 8 (by decide), e85 _ 7 (by decide), e85 _ 6 (by decide)]
      simp only [w9, w8]
    rw [e30]
    obtain ⟨q1, q2⟩ := hRT m (by omega)
    rw [← q1]
    rcases q2 with q2 | ⟨g, hg, q2⟩
    · rw [q2, if_pos rfl, if_neg (by decide)]
      exact trap 6 (by decide) (by decide)
    · have hF64 := h.1.1.2.1.2.1
      obtain ⟨t1, cg, t2, t3⟩ := rs_tt h.1.1 hg
      have htg := yl_lt t2
      have g12 : u.2.2.1 12 g = nI (tt g) := (h.1.1.2.1.2.2.1 g _ t1).1
      have g9 : v.2.2.1 9 g = nI (tt g) := (h.1.1.2.2.2.1.2.2.1 g _ t1).1
      have i64 : ∀ {α : Type} {k : Nat} {o : Option (α × xk_St)}, k < 64 → (if nI k < 0 ∨ 64 ≤ (nI k).toNatClampNeg then none else o) = o := fun hk => if_neg (nI_in (N := 64) hk (by decide))
      have i65 : ∀ {α : Type} {k : Nat} {o : Option (α × xk_St)}, k < 64 → (if nI k < 0 ∨ 65 ≤ (nI k).toNatClampNeg then none else o) = o := fun hk => if_neg (nI_in (N := 65) (by omega) (by decide))
      rw [q2, if_pos (show (0 : Int32) ≤ nI g from nI_le (a := 0) (by omega) (by omega)), if_neg (show ¬ nI g = -1 from fun y => nI_pos (n := g) (by omega) (by rw [y]; decide)), i64 (k := g) (by omega), i64 (k := ti) (by omega), i65 (k := g) (by omega), i65 (k := ti) (by omega), show (nI g).toNatClampNeg = g from nI_clamp (by omega), g9, i64 (k := tt g) (by omega), g12, i65 (k := tt g) (by omega), show (nI (tt g)).toNatClampNeg = tt g from nI_clamp (by omega), show (nI ti).toNatClampNeg = ti from nI_clamp (by omega), h.1.1.1.2.2 (tt g) htg, h.1.1.1.2.2 ti hti, h.1.1.2.2.1.2.2.2 (tt g) htg, h.1.1.2.2.1.2.2.2 ti hti]
      have hle := yl_fle (yTM_ah h.1.1.2.2.1)
      have l1 := hle (tt g)
      have l2 := hle ti
      by_cases ceq : yl_f T (tt g) = yl_f T ti
      · rw [ceq, if_pos rfl, if_pos rfl]
        have e85' : jb_Model_callByTable_85 fu (nI g) 0 w1 = fm_Model_enter fu (nI g) (w.1 4) (xs_I w1 29 0) := by
          unfold jb_Model_callByTable_85
          simp only [xs_let]
          rw [if_pos (show (xs_I w1 29 0).1 29 = 0 from rfl), xs_id]
          have : (xs_I w1 29 0).1 4 = w.1 4 := fwW.1 4 (by decide)
          rw [this]
        rw [e85']
        obtain ⟨n1, n2, n3⟩ := ty_same h.1.1.2.2.1 ceq t2 hc
        obtain ⟨n4, n5, n6⟩ := ty_same h.1.1.2.2.1 ceq.symm hc t2
        have r1' : RS T H ((fW LL r ++ LL x.1) ++ (sq_f (sf_s f0 s' :: q) ++ cg.2.1)) u1 (xs_I w1 29 0) := by
          rw [← List.append_assoc] at r1 ⊢
          exact RS_fv (RS_wd r1 n5) (yf_I (I := [29]) (J := []) (A := []) (B := []) yf_refl (by decide)) (by decide)
        exact rz_call (ps := c.2.2) hfu h hQ hds fU1 (yf_I fW1 (by decide)) (by rw [← hU1]; exact z1) rfl (by show w1.1 6 = 0; rw [fwW.1 6 (by decide)]; exact z3) (by rw [← hU1]; rfl) hg t2 r1' n3 hpu (fun tn' e => hP g _ tn' hg e)
      · rw [if_neg (fun y => ceq ((nI_eq (by omega) (by omega)).mp y)), if_neg (fun y => ceq ((nI_eq (by omega) (by omega)).mp y))]
        exact trap 7 (by decide) (by decide)
end
