section
variable {α β γ δ σ τ : Type} {B : Nat → Int32} {u v w u' v' u0 v0 : xk_St} {T : List (Nat × List Nat × List Nat)} {F : List Nat} {G : List (Nat × Nat × Nat × Int64)} {L W0 : List Nat} {n fu tc mc lim p q len f D k tn tn' j d b g m : Nat} {z : Nat → Nat} {LL : Nat → List Nat} {AA : Nat → sBo} {tt : Nat → Nat} {H H' : rH} {fs r rr : List rFr} {x x' : rFr} {c : Nat × List Nat × List Nat} {y : Nat × sIn} {Q Qn Q1 : List sFr} {P : List rFr → Nat → Prop} {R : List Nat}
/-- an instruction with a signature: what lies below is known -/
theorem ri_sgX {ws cs : List Nat} {ou ov : Option (Unit × xk_St)} (h : rFt D B len T F tc mc G z LL AA tt H x r tn y Qn u v w) (hP : rPs P x r tn) (hs : sq_sg T ws cs x.2.2 = some Qn) (hw : ∀ w, w ∈ ws → w < 150) (ho : ∀ X, (((fW LL r ++ LL x.1) ++ X) ++ cs).length ≤ 18000 → RS T H (((fW LL r ++ LL x.1) ++ X) ++ ws.reverse) (uF z AA x u) w → RO T H (((fW LL r ++ LL x.1) ++ X) ++ cs) (uF z AA x u) w ou ov) : RZ D B len T F tc mc G z LL AA tt P R ou ov := by
  obtain ⟨f0, q, hQ, hd⟩ := rf_Q h
  obtain ⟨z1, z2, z3, z4, z5⟩ := rf_0 h
  have hl := rf_len h
  rw [hQ] at hs
  have ht := sTq_sg hs hd
  obtain ⟨X, s', r1, r2, r3⟩ := RS_sg (rf_RS' h hQ) hs hd hw
  refine rz_simple h.1 h.2.1 (by rw [hQ]; exact ht) h.2.2.1 h.2.2.2.2.1 z3 (hP.2.1 _ _ (Nat.lt_succ_self _)) ?_
  have e : fW LL ((x.1, x.2.1 + 1, Qn) :: r) = ((fW LL r ++ LL x.1) ++ X) ++ cs := by
    show fW LL r ++ (LL x.1 ++ sq_f Qn) = _
    rw [r2]; simp only [List.append_assoc]
  rw [e]
  refine ho _ ?_ r1
  rw [r2, ← List.append_assoc] at hl
  exact hl
/-- one value of the stacks is written -/
theorem RS_set {W : List Nat} {s t : Nat} {xh xm : Int64} {fh : Int32} (h : RS T H W u v) (hs : W[s]? = some t) (hr : rv T H t xh fh xm) : RS T H W (xs_A (xs_B u 10 s xh) 37 s fh) (xs_B v 3 s xm) := by
  obtain ⟨h1, h2, h3, h4⟩ := h
  refine ⟨h1, h2, h3, fun i c hc => ?_⟩
  have h5 := h4 i c hc
  refine ⟨?_, h5.2⟩
  show rv T H c (vp_updL (u.2.2.2 10) s xh i) (upd (u.2.2.1 37) s fh i) (vp_updL (v.2.2.2 3) s xm i)
  by_cases zi : i = s
  · subst zi
    rw [hs] at hc; cases hc
    rw [yb_t, ya_t, yb_t]
    exact hr
  · rw [yb_j zi, ya_j zi, yb_j zi]
    exact h5.1
theorem hp_copy {s d : Nat} (hs : s < 18000) (hd : d < 18000) (hb : u.2.2.1 37 s = 0 ∨ u.2.2.1 37 s = 1) : fm_Values_copy__h61_61 (nI s) (nI d) u = some ((), xs_A (xs_B u 10 d (u.2.2.2 10 s)) 37 d (u.2.2.1 37 s)) := by
  unfold fm_Values_copy__h61_61
  simp only [xs_let]
  rw [ix18 hs, ix18 hd, ix18 hs, ix18 hd, show (nI s).toNatClampNeg = s from nI_clamp (by omega), show (nI d).toNatClampNeg = d from nI_clamp (by omega)]
  have : (xs_B u 10 d (u.2.2.2 10 s)).2.2.1 37 s = u.2.2.1 37 s := rfl
  rw [this, bo_01 hb]
theorem hp_pushF {s : Nat} (h28 : u.1 28 = nI n) (hn : n < 18000) (hs : s < 18000) (hb : u.2.2.1 37 s = 0 ∨ u.2.2.1 37 s = 1) : fm_Values_pushFrom__h61_61 (nI s) u = some ((), uP u n (u.2.2.2 10 s) (u.2.2.1 37 s)) := by
  unfold fm_Values_pushFrom__h61_61
  rw [h28, hp_copy hs hn hb, ys_seq]
  simp only [xs_let]
  have : (xs_A (xs_B u 10 n (u.2.2.2 10 s)) 37 n (u.2.2.1 37 s)).1 28 = nI n := h28
  rw [this, nI_1]
  rfl
theorem hp_pushG {s : Nat} (h28 : u.1 28 = nI n) (hn : n < 18000) (hs : s < 64) (hb : u.2.2.1 38 s = 0 ∨ u.2.2.1 38 s = 1) : fm_Values_pushFrom__h61_64 (nI s) u = some ((), uP u n (u.2.2.2 11 s) (u.2.2.1 38 s)) := by
  unfold fm_Values_pushFrom__h61_64 fm_Values_copy__h61_64
  simp only [xs_let]
  have i64 : ∀ {α : Type} {k : Nat} {o : Option (α × xk_St)}, k < 64 → (if nI k < 0 ∨ 64 ≤ (nI k).toNatClampNeg then none else o) = o := fun hk => if_neg (nI_in (N := 64) hk (by decide))
  rw [h28, i64 hs, ix18 hn, i64 hs, ix18 hn, show (nI s).toNatClampNeg = s from nI_clamp (by omega), show (nI n).toNatClampNeg = n from nI_clamp (by omega)]
  have : (xs_B u 10 n (u.2.2.2 11 s)).2.2.1 38 s = u.2.2.1 38 s := rfl
  rw [this, bo_01 hb, ys_seq]
  have : (xs_A (xs_B u 10 n (u.2.2.2 11 s)) 37 n (u.2.2.1 38 s)).1 28 = nI n := h28
  rw [this, nI_1]
  rfl
/-- what is common to 0x20 .. 0x24 -/
theorem rf_name (h : rFt D B len T F tc mc G z LL AA tt H x r tn y Qn u v w) (hi : 32 ≤ y.2.1 ∧ y.2.1 < 37) : ∃ m, m < 2 ^ 32 ∧ y.2.2.1 = .inr (lN m) ∧ u.2.2.1 7 (kF z AA x) = nI y.2.1 ∧ w.1 8 = nI y.2.1 ∧ u.2.2.1 8 (kF z AA x) = nI (yn_c m) ∧ w.2.1 0 = lN m ∧ kF z AA x < 8192 ∧ fm_Machine_step fu (nI y.2.1) (nI (kF z AA x)) (uF z AA x u) = fm_Machine_doSimple (nI y.2.1) (nI (yn_c m)) (uF z AA x u) ∧ mr_st fu w = fm_Model_doNames w := by
  have h7 : u.2.2.1 7 (kF z AA x) = nI y.2.1 := by rw [h.2.1.2.2.1.1, if_neg (by omega)]
  have h8 : w.1 8 = nI y.2.1 := by rw [h.2.2.2.1.2.2.2.1, if_pos (by omega)]
  have hk : kF z AA x < 8192 := h.2.1.2.2.2.2.2.2.2.1
  have h117 : ∀ o, o < 37 → 32 ≤ o → xt_S o = 117 := by decide +kernel
  obtain ⟨m, m1, m2, -⟩ := h.2.1.2.2.2.2.2.2.1.2.2.2.2.2.2.1 (h117 _ hi.2 hi.1)
  have e8 : u.2.2.1 8 (kF z AA x) = nI (yn_c m) := by
    obtain ⟨ns, h8k⟩ := h.2.1.2.2.1.2.1
    rw [h8k]
    unfold ye_1
    rw [h117 _ hi.2 hi.1, if_neg (by decide), if_neg (by decide), if_neg (by decide), if_pos (by decide), m2, yx_lN (by omega)]
  refine ⟨m, m1, m2, h7, h8, e8, by rw [h.2.2.2.1.1, m2]; rfl, hk, ?_, ?_⟩
  · rw [hs_simple (by omega) (by omega) hk]
    have : (uF z AA x u).2.2.1 8 (kF z AA x) = nI (yn_c m) := e8
    rw [this]
  · unfold mr_st
    rw [h8, if_pos (show (32 : Int32) ≤ nI y.2.1 from nI_le (a := 32) (by omega) (by omega)), if_neg (fun y => by have := (nI_leI (a := 40) (by omega) (by omega)).mp y; omega)]
/-- 0x20 .. 0x22 -/
theorem ri_32 (h : rFt D B len T F tc mc G z LL AA tt H x r tn y Qn u v w) (hi : 32 ≤ y.2.1 ∧ y.2.1 < 35) (hP : rPs P x r tn) : RZ D B len T F tc mc G z LL AA tt P R (fm_Machine_step fu (u.2.2.1 7 (kF z AA x)) (nI (kF z AA x)) (uF z AA x u)) (mr_st fu w) := by
  obtain ⟨m, m1, m2, h7, h8, e8, hj, hk, es, er⟩ := rf_name (fu := fu) h ⟨hi.1, by omega⟩
  obtain ⟨z1, z2, z3, z4, z5⟩ := rf_0 h
  have hs := h.2.1.2.1
  unfold sq_step at hs
  rw [if_neg (by omega), if_neg (by omega), if_neg (by omega), if_neg (by omega), if_neg (by omega), if_neg (by omega), if_neg (by omega), if_neg (by omega), if_neg (by omega), if_neg (by omega), if_neg (by omega), if_neg (by omega), if_neg (by omega), if_neg (by omega), if_pos (by omega), m2, yx_lN (by omega)] at hs
  obtain ⟨t, hL, hs⟩ := Option.bind_eq_some_iff.mp hs
  have hml := yl_lt hL
  have h60 := h.1.2.2.2.2.2.1.2.2.1
  have hl : (x :: r).length = r.length + 1 := List.length_cons
  obtain ⟨⟨c, hc⟩, hmlo, -⟩ := h.1.1.2.2.2.2.2.2.2 x.1 h.1.2.2.1.1.2.2.2.2.2.1.1
  have hL200 := hc.2.2.2.2.2.2.2.2.2.1.1
  have ht150 := (hc.2.2.2.2.2.2.2.2.2.1.2 m t hL).1.1
  have hF1 := RF_fv z5 (by decide) (RF_fu z4 (by decide) h.1.2.2.1)
  obtain ⟨a1, a2, a3, a4, a5, a6, a7⟩ := hF1.1
  have u24 : (uF z AA x u).1 24 = nI (r.length + 1) := h.1.2.2.2.2.2.1.1
  have w27 : w.1 27 = nI (r.length + 1) := by rw [h.2.2.1.1 27 (by decide), h.1.2.2.2.2.2.1.2.1, hl]
  have hyn : yn_c m = m := yn_cs (by omega)
  rw [h7, es, er, hyn]
  have slot : ∀ X, (((fW LL r ++ LL x.1) ++ X))[fN LL r + m]? = some t := fun X => by
    rw [List.append_assoc, List.getElem?_append_right (by rw [fW_len]; omega), fW_len, Nat.add_sub_cancel_left, List.getElem?_append_left hml]
    exact hL
  have jm : (w.2.1 0).toInt32 = nI m := by rw [hj]; exact sb_nLi (by omega)
  have i60 : ∀ {α : Type} {k : Nat} {o : Option (α × xk_St)}, k < 60 → (if nI k < 0 ∨ 60 ≤ (nI k).toNatClampNeg then none else o) = o := fun hk => if_neg (nI_in (N := 60) hk (by decide))
  have i61 : ∀ {α : Type} {k : Nat} {o : Option (α × xk_St)}, k < 61 → (if nI k < 0 ∨ 61 ≤ (nI k).toNatClampNeg then none else o) = o := fun hk => if_neg (nI_in (N := 61) hk (by decide))
  have cr : (nI r.length).toNatClampNeg = r.length := nI_clamp (by omega)
  by_cases o32 : y.2.1 = 32
  · -- get
    rw [o32] at hs h8 ⊢
    have hs : sq_sg T [] [t] x.2.2 = some Qn := hs
    refine ri_sgX h hP hs (fun w hw => by cases hw) fun X hX hRS => ?_
    rw [List.reverse_nil, List.append_nil] at hRS
    have hsl := slot X
    generalize hW : (fW LL r ++ LL x.1) ++ X = W at *
    have hW18 : W.length < 18000 := by rw [List.length_append, List.length_singleton] at hX; omega
    have hsW := yl_lt hsl
    obtain ⟨v1, v2⟩ := hRS.2.2.2 _ _ hsl
    have e1 : fm_Machine_doSimple (nI 32) (nI m) (uF z AA x u) = some ((), uP (uF z AA x u) W.length ((uF z AA x u).2.2.2 10 (fN LL r + m)) ((uF z AA x u).2.2.1 37 (fN LL r + m))) := by
      have : fm_Machine_doSimple (nI 32) (nI m) (uF z AA x u) = (if (((uF z AA x u).1 24) - (1 : Int32)) < 0 ∨ 60 ≤ (((uF z AA x u).1 24) - (1 : Int32)).toNatClampNeg then none else xs_seq (fm_Values_pushFrom__h61_61 (((uF z AA x u).2.2.1 49 (((uF z AA x u).1 24) - (1 : Int32)).toNatClampNeg) + nI m) (uF z AA x u)) fun _ u14 => some ((()), u14)) := rfl
      rw [this, u24, nI_pred, i60 (by omega), cr, a2, nI_add, xs_id]
      exact hp_pushF hRS.1 hW18 (by omega) (rv_f v1)
    have e2 : fm_Model_doNames w = some ((), vP w W.length (w.2.2.2 3 (fN LL r + m)) (w.2.2.1 29 (fN LL r + m))) := by
      unfold fm_Model_doNames
      simp only [xs_let]
      rw [h8, jm, if_pos (by decide), w27, nI_pred, i61 (by omega), cr, a3, nI_add, if_pos (by decide), ix19 (by omega), ix19 (by omega), show (nI (fN LL r + m)).toNatClampNeg = fN LL r + m from nI_clamp (by omega), mp_lay hRS.2.1 hW18 (by rw [v2]; by_cases q : 16 ≤ t; rw [if_pos q]; exact Or.inr rfl; rw [if_neg q]; exact Or.inl rfl), ys_seq]
      unfold jb_Model_doNames_116
      have : ∀ a b, (vP w W.length a b).1 8 = nI 32 := fun _ _ => h8
      rw [this, if_neg (by decide)]
    rw [e1, e2]
    have hp := RS_push hRS hW18 v1
    rw [← v2] at hp
    exact ⟨_, _, rfl, rfl, yf_mono uP_f (by decide), yf_mono vP_f (by decide), Or.inl ⟨z1, z2, hp⟩⟩
  · -- set, tee
    have hs2 : sq_sg T [t] (if y.2.1 = 33 then [] else [t]) x.2.2 = some Qn := by
      have hs : sq_sg T (if y.2.1 - 32 = 0 then [] else [t]) (if y.2.1 - 32 = 1 then [] else [t]) x.2.2 = some Qn := hs
      rw [if_neg (by omega)] at hs
      by_cases q : y.2.1 = 33
      · rw [if_pos (by omega)] at hs
        rw [if_pos q]; exact hs
      · rw [if_neg (by omega)] at hs
        rw [if_neg q]; exact hs
    refine ri_sgX h hP hs2 (fun w hw => by rw [List.mem_singleton.mp hw]; exact ht150) fun X hX hRS => ?_
    rw [show [t].reverse = [t] from rfl] at hRS
    have hsl := slot X
    generalize hW : (fW LL r ++ LL x.1) ++ X = W at *
    have hlen : (W ++ [t]).length = W.length + 1 := by rw [List.length_append, List.length_singleton]
    have hW18 : W.length < 18000 := by have := hRS.2.2.1; omega
    have hsW := yl_lt hsl
    have hsl' : (W ++ [t])[fN LL r + m]? = some t := by rw [List.getElem?_append_left hsW]; exact hsl
    obtain ⟨v1, v2⟩ := hRS.2.2.2 W.length t (by rw [List.getElem?_append_right (Nat.le_refl _), Nat.sub_self]; rfl)
    have hset := RS_set hRS hsl' v1
    have u28 : (uF z AA x u).1 28 = nI (W.length + 1) := by rw [hRS.1, hlen]
    have w26 : w.1 26 = nI (W.length + 1) := by rw [hRS.2.1, hlen]
    have e1 : fm_Machine_doSimple (nI y.2.1) (nI m) (uF z AA x u) = some ((), xs_I (xs_A (xs_B (uF z AA x u) 10 (fN LL r + m) ((uF z AA x u).2.2.2 10 W.length)) 37 (fN LL r + m) ((uF z AA x u).2.2.1 37 W.length)) 28 (if y.2.1 = 33 then nI W.length else nI (W.length + 1))) := by
      have : fm_Machine_doSimple (nI y.2.1) (nI m) (uF z AA x u) = jb_Machine_doSimple_193 (nI y.2.1) (nI m) (uF z AA x u) := by
        have : y.2.1 = 33 ∨ y.2.1 = 34 := by omega
        rcases this with q | q <;> rw [q] <;> rfl
      rw [this]
      unfold jb_Machine_doSimple_193
      rw [u24, nI_pred, i60 (by omega), cr, a2, nI_add, u28, nI_pred, hp_copy hW18 (by omega) (rv_f v1), ys_seq]
      have c28 : (xs_A (xs_B (uF z AA x u) 10 (fN LL r + m) ((uF z AA x u).2.2.2 10 W.length)) 37 (fN LL r + m) ((uF z AA x u).2.2.1 37 W.length)).1 28 = nI (W.length + 1) := u28
      rw [c28]
      unfold jb_Machine_doSimple_245
      simp only [xs_let]
      have : y.2.1 = 33 ∨ y.2.1 = 34 := by omega
      rcases this with q | q
      · rw [q, if_pos (by decide), if_pos rfl, nI_pred]
      · rw [q, if_neg (by decide), if_neg (by decide), show nI (W.length + 1) - (0 : Int32) = nI (W.length + 1) from Int32.sub_zero _]
    have e2 : fm_Model_doNames w = some ((), if y.2.1 = 33 then xs_I (xs_B w 3 (fN LL r + m) (w.2.2.2 3 W.length)) 26 (nI W.length) else xs_B w 3 (fN LL r + m) (w.2.2.2 3 W.length)) := by
      unfold fm_Model_doNames
      simp only [xs_let]
      have q34 : nI y.2.1 ≤ 34 := (nI_leI (b := 34) (by omega) (by decide)).mpr (by omega)
      have q32 : ¬ nI y.2.1 = 32 := fun q => by have := (nI_eq (b := 32) (by omega) (by decide)).mp q; omega
      rw [h8, jm, if_pos q34, w27, nI_pred, i61 (by omega), cr, a3, nI_add, if_neg q32, w26, nI_pred, ix19 (by omega), ix19 (by omega), show (nI (fN LL r + m)).toNatClampNeg = fN LL r + m from nI_clamp (by omega), show (nI W.length).toNatClampNeg = W.length from nI_clamp (by omega)]
      unfold jb_Model_doNames_116
      simp only [xs_let]
      have c8 : (xs_B w 3 (fN LL r + m) (w.2.2.2 3 W.length)).1 8 = nI y.2.1 := h8
      have c26 : (xs_B w 3 (fN LL r + m) (w.2.2.2 3 W.length)).1 26 = nI (W.length + 1) := w26
      rw [c8, c26, nI_pred]
      have : y.2.1 = 33 ∨ y.2.1 = 34 := by omega
      rcases this with q | q
      · rw [q, if_pos (by decide), if_pos rfl]
      · rw [q, if_neg (by decide), if_neg (by decide)]
    rw [e1, e2]
    refine ⟨_, _, rfl, rfl, yf_I (yf_A (yf_B yf_refl (by decide)) (by decide)) (by decide), ?_, Or.inl ⟨z1, ?_, ?_⟩⟩
    · by_cases q : y.2.1 = 33
      · rw [if_pos q]; exact yf_I (yf_B yf_refl (by decide)) (by decide)
      · rw [if_neg q]; exact yf_B yf_refl (by decide)
    · by_cases q : y.2.1 = 33
      · rw [if_pos q]; exact z2
      · rw [if_neg q]; exact z2
    · by_cases q : y.2.1 = 33
      · rw [if_pos q, if_pos q, if_pos q, List.append_nil]
        exact (RS_pop hset).1
      · rw [if_neg q, if_neg q, if_neg q]
        have hset2 : RS T H (W ++ [t]) (xs_I (xs_A (xs_B (uF z AA x u) 10 (fN LL r + m) ((uF z AA x u).2.2.2 10 W.length)) 37 (fN LL r + m) ((uF z AA x u).2.2.1 37 W.length)) 28 (nI (W.length + 1))) (xs_B w 3 (fN LL r + m) (w.2.2.2 3 W.length)) := ⟨by rw [hlen]; rfl, hset.2.1, hset.2.2.1, hset.2.2.2⟩
        exact hset2
end
