section
variable {α β γ δ σ τ : Type} {B : Nat → Int32} {u v w u' v' u0 v0 : xk_St} {T : List (Nat × List Nat × List Nat)} {F : List Nat} {G : List (Nat × Nat × Nat × Int64)} {L W0 : List Nat} {n fu tc mc lim p q len f D k tn tn' j d b g m : Nat} {z : Nat → Nat} {LL : Nat → List Nat} {AA : Nat → sBo} {tt : Nat → Nat} {H H' : rH} {fs r rr : List rFr} {x x' : rFr} {c : Nat × List Nat × List Nat} {y : Nat × sIn} {Q Qn Q1 : List sFr} {P : List rFr → Nat → Prop} {R : List Nat}
theorem hs_ref {o : Nat} (ho : 208 ≤ o) (ho2 : o < 256) : fm_Machine_step fu (nI o) (nI k) u = fm_Machine_doReference fu (nI o) (nI k) u := by
  unfold fm_Machine_step
  rw [if_pos (show (16 : Int32) ≤ nI o from nI_le (a := 16) (by omega) (by omega)), if_pos (show (40 : Int32) ≤ nI o from nI_le (a := 40) (by omega) (by omega)), if_pos (show (64 : Int32) < nI o from (nI_ltI (a := 64) (by omega) (by omega)).mpr (by omega)), if_pos (show (66 : Int32) < nI o from (nI_ltI (a := 66) (by omega) (by omega)).mpr (by omega)), if_pos (show (208 : Int32) ≤ nI o from nI_le (a := 208) (by omega) (by omega)), if_neg (show ¬ (256 : Int32) ≤ nI o from fun y => by have := (nI_leI (a := 256) (by omega) (by omega)).mp y; omega), xs_id]
theorem mr_ref {o : Nat} (h8 : w.1 8 = nI o) (ho : 208 ≤ o) (ho2 : o < 251) : mr_st fu w = fm_Model_doReferences fu w := by
  unfold mr_st
  rw [h8, if_pos (show (32 : Int32) ≤ nI o from nI_le (a := 32) (by omega) (by omega)), if_pos (show (40 : Int32) ≤ nI o from nI_le (a := 40) (by omega) (by omega)), if_pos (show (65 : Int32) ≤ nI o from nI_le (a := 65) (by omega) (by omega)), if_pos (show (208 : Int32) ≤ nI o from nI_le (a := 208) (by omega) (by omega)), if_neg (fun y => by have := (nI_leI (a := 251) (by omega) (by omega)).mp y; omega)]
/-- 0xd0 -/
theorem ri_208 (h : rFt D B len T F tc mc G z LL AA tt H x r tn y Qn u v w) (hi : y.2.1 = 208) (hP : rPs P x r tn) : RZ D B len T F tc mc G z LL AA tt P R (fm_Machine_step fu (u.2.2.1 7 (kF z AA x)) (nI (kF z AA x)) (uF z AA x u)) (mr_st fu w) := by
  have h7 : u.2.2.1 7 (kF z AA x) = nI 208 := by rw [h.2.1.2.2.1.1, if_neg (by omega), hi]
  have h8 : w.1 8 = nI 208 := by rw [h.2.2.2.1.2.2.2.1, if_pos (by omega), hi]
  obtain ⟨t, t1, t2⟩ := h.2.1.2.2.2.2.2.2.1.2.2.2.2.2.1 (by rw [hi]; decide +kernel)
  obtain ⟨z1, z2, z3, z4, z5⟩ := rf_0 h
  have hs := h.2.1.2.1
  unfold sq_step at hs
  rw [hi, if_neg (by decide), if_neg (by decide), if_neg (by decide), if_neg (by decide), if_neg (by decide), if_neg (by decide), if_neg (by decide), if_neg (by decide), if_neg (by decide), if_neg (by decide), if_neg (by decide), if_neg (by decide), if_neg (by decide), if_neg (by decide), if_neg (by decide), if_neg (by decide), if_neg (by decide), if_neg (by decide), if_neg (by decide), if_pos rfl, t2, yx_lN (by omega)] at hs
  obtain ⟨-, hs⟩ := xp_if hs
  have hs' : sq_sg T [] [16 + 2 * t + 1] x.2.2 = some Qn := by
    show (sq_push (16 + 2 * t + 1) x.2.2).bind (sq_pushes []) = some Qn
    rw [hs]; rfl
  rw [h7, hs_ref (by omega) (by omega), mr_ref h8 (by omega) (by omega)]
  refine ri_sgX h hP hs' (fun w hw => by cases hw) fun X hX hRS => ?_
  rw [List.reverse_nil, List.append_nil] at hRS
  generalize hW : (fW LL r ++ LL x.1) ++ X = W at *
  have hW18 : W.length < 18000 := by rw [List.length_append, List.length_singleton] at hX; omega
  have e1 : fm_Machine_doReference fu (nI 208) (nI (kF z AA x)) (uF z AA x u) = some ((), uP (uF z AA x u) W.length 0 1) := by
    have : fm_Machine_doReference fu (nI 208) (nI (kF z AA x)) (uF z AA x u) = xs_seq (fm_Values_pushReference__h61 (0 : Int64) (uF z AA x u)) fun _ u1 => some ((()), u1) := rfl
    rw [this, hp_pushR hRS.1 hW18]; rfl
  have e2 : fm_Model_doReferences fu w = some ((), vP w W.length 0 1) := by
    unfold fm_Model_doReferences
    rw [h8, if_pos (by decide), mp_lay hRS.2.1 hW18 (Or.inr rfl)]; rfl
  rw [e1, e2]
  have hr : rv T H (16 + 2 * t + 1) 0 1 0 := Or.inr (Or.inr ⟨by omega, by omega, Or.inl ⟨rfl, rfl, by omega, Or.inr rfl⟩⟩)
  have hp := RS_push hRS hW18 hr
  rw [if_pos (by omega)] at hp
  exact ⟨_, _, rfl, rfl, yf_mono uP_f (by decide), yf_mono vP_f (by decide), Or.inl ⟨z1, z2, hp⟩⟩
theorem rf_RH (h : rFt D B len T F tc mc G z LL AA tt H x r tn y Qn u v w) : RHp T H u v := h.1.2.2.2.2.1.1
/-- 0xd1 -/
theorem ri_209 (h : rFt D B len T F tc mc G z LL AA tt H x r tn y Qn u v w) (hi : y.2.1 = 209) (hP : rPs P x r tn) : RZ D B len T F tc mc G z LL AA tt P R (fm_Machine_step fu (u.2.2.1 7 (kF z AA x)) (nI (kF z AA x)) (uF z AA x u)) (mr_st fu w) := by
  have h7 : u.2.2.1 7 (kF z AA x) = nI 209 := by rw [h.2.1.2.2.1.1, if_neg (by omega), hi]
  have h8 : w.1 8 = nI 209 := by rw [h.2.2.2.1.2.2.2.1, if_pos (by omega), hi]
  obtain ⟨f0, q, hQ, hd⟩ := rf_Q h
  obtain ⟨z1, z2, z3, z4, z5⟩ := rf_0 h
  have hs := h.2.1.2.1
  unfold sq_step at hs
  rw [hi, if_neg (by decide), if_neg (by decide), if_neg (by decide), if_neg (by decide), if_neg (by decide), if_neg (by decide), if_neg (by decide), if_neg (by decide), if_neg (by decide), if_neg (by decide), if_neg (by decide), if_neg (by decide), if_neg (by decide), if_neg (by decide), if_neg (by decide), if_neg (by decide), if_neg (by decide), if_neg (by decide), if_neg (by decide), if_neg (by decide), if_pos rfl, hQ] at hs
  obtain ⟨yy, k1, hs⟩ := Option.bind_eq_some_iff.mp (show (sq_popR (f0 :: q)).bind (fun x => sq_push 1 x.2) = some Qn from hs)
  have hRS := rf_RS' h hQ
  obtain ⟨s, b1, b2, b3, b4, b5⟩ := rf_popR hRS hd k1
  rw [b1] at hs
  have hQn := sq_pushS hs
  rw [b5] at hRS
  have hlen := rf_len h
  rw [h7, hs_ref (by omega) (by omega), mr_ref h8 (by omega) (by omega)]
  refine rz_simple h.1 h.2.1 (by rw [hQ, hQn]; exact ⟨f0, _, q, rfl, rfl, ⟨rfl, rfl, rfl⟩, hd⟩) h.2.2.1 h.2.2.2.2.1 z3 (hP.2.1 _ _ (Nat.lt_succ_self _)) ?_
  have e : fW LL ((x.1, x.2.1 + 1, Qn) :: r) = ((fW LL r ++ LL x.1) ++ sq_f (sf_s f0 s :: q)) ++ [1] := by
    show fW LL r ++ (LL x.1 ++ sq_f Qn) = _
    rw [hQn]
    show fW LL r ++ (LL x.1 ++ (sq_f q ++ (1 :: s).reverse)) = ((fW LL r ++ LL x.1) ++ (sq_f q ++ s.reverse)) ++ [1]
    rw [List.reverse_cons]; simp only [List.append_assoc]
  rw [e]
  generalize hW : (fW LL r ++ LL x.1) ++ sq_f (sf_s f0 s :: q) = W at *
  have hl : (W ++ [yy.1]).length = W.length + 1 := by rw [List.length_append, List.length_singleton]
  have hW18 : W.length < 18000 := by have := hRS.2.2.1; omega
  obtain ⟨c1, c2, c3⟩ := RS_pop hRS
  have hK := rK_0 (rf_RH h) (rv_K c2 b3)
  have e1 : fm_Machine_doReference fu (nI 209) (nI (kF z AA x)) (uF z AA x u) = fm_Values_pushTruth__h61 (if (uF z AA x u).2.2.2 10 W.length = 0 then 1 else 0) (xs_I (uF z AA x u) 28 (nI W.length)) := by
    have : fm_Machine_doReference fu (nI 209) (nI (kF z AA x)) (uF z AA x u) = xs_seq (fm_Values_pop__h61 (uF z AA x u)) fun a2 u3 => if a2 = (0 : Int64) then (jb_Machine_doReference_72 fu (1 : Int32) u3) else (jb_Machine_doReference_72 fu (0 : Int32) u3) := rfl
    rw [this, hp_pop (by rw [hRS.1, hl]) hW18, ys_seq]
    unfold jb_Machine_doReference_72
    rw [xs_id, xs_id]
    by_cases q : (uF z AA x u).2.2.2 10 W.length = 0
    · rw [if_pos q, if_pos q]
    · rw [if_neg q, if_neg q]
  have e2 : fm_Model_doReferences fu w = fm_Model_tell (if (uF z AA x u).2.2.2 10 W.length = 0 then (1 : Int32) else 0).toInt64 (xs_I w 26 (nI W.length)) := by
    unfold fm_Model_doReferences
    simp only [xs_let]
    rw [h8, if_neg (by decide), hRS.2.1, hl, nI_pred, ix19 (by omega), if_pos (by decide), show (nI W.length).toNatClampNeg = W.length from nI_clamp (by omega)]
    unfold jb_Model_doReferences_90
    rw [xs_id, xs_id]
    by_cases q : (uF z AA x u).2.2.2 10 W.length = 0
    · rw [if_pos (hK.mp q), if_pos q]; rfl
    · rw [if_neg (fun t => q (hK.mpr t)), if_neg q]; rfl
  rw [e1, e2]
  refine RO_i (RO_truth c1 hW18 z1 z2 ?_)
  by_cases q : (uF z AA x u).2.2.2 10 W.length = 0
  · rw [if_pos q]; exact Or.inr rfl
  · rw [if_neg q]; exact Or.inl rfl
/-- 0xd3 -/
theorem ri_211 (h : rFt D B len T F tc mc G z LL AA tt H x r tn y Qn u v w) (hi : y.2.1 = 211) (hP : rPs P x r tn) : RZ D B len T F tc mc G z LL AA tt P R (fm_Machine_step fu (u.2.2.1 7 (kF z AA x)) (nI (kF z AA x)) (uF z AA x u)) (mr_st fu w) := by
  have h7 : u.2.2.1 7 (kF z AA x) = nI 211 := by rw [h.2.1.2.2.1.1, if_neg (by omega), hi]
  have h8 : w.1 8 = nI 211 := by rw [h.2.2.2.1.2.2.2.1, if_pos (by omega), hi]
  obtain ⟨z1, z2, z3, z4, z5⟩ := rf_0 h
  have hs := h.2.1.2.1
  unfold sq_step at hs
  rw [hi, if_neg (by decide), if_neg (by decide), if_neg (by decide), if_neg (by decide), if_neg (by decide), if_neg (by decide), if_neg (by decide), if_neg (by decide), if_neg (by decide), if_neg (by decide), if_neg (by decide), if_neg (by decide), if_neg (by decide), if_neg (by decide), if_neg (by decide), if_neg (by decide), if_neg (by decide), if_neg (by decide), if_neg (by decide), if_neg (by decide), if_neg (by decide), if_pos rfl] at hs
  rw [h7, hs_ref (by omega) (by omega), mr_ref h8 (by omega) (by omega)]
  refine ri_sgX h hP hs (fun w hw => by simp at hw; omega) fun X hX hRS => ?_
  generalize hW : (fW LL r ++ LL x.1) ++ X = W at *
  have hRS : RS T H ((W ++ [17]) ++ [17]) (uF z AA x u) w := by
    rw [List.append_assoc]; exact hRS
  have hl : (W ++ [17]).length = W.length + 1 := by rw [List.length_append, List.length_singleton]
  have hl2 : ((W ++ [17]) ++ [17]).length = W.length + 2 := by rw [List.length_append, List.length_append, List.length_singleton]
  have hW18 : W.length + 1 < 18000 := by have := hRS.2.2.1; omega
  obtain ⟨c1, c2, c3⟩ := RS_pop hRS
  obtain ⟨d1, d2, d3⟩ := RS_pop c1
  rw [hl] at c2
  have hK : (uF z AA x u).2.2.2 10 (W.length + 1) = (uF z AA x u).2.2.2 10 W.length ↔ w.2.2.2 3 (W.length + 1) = w.2.2.2 3 W.length := rK_eq (rf_RH h) (rv_K c2 (by decide)) (rv_K d2 (by decide))
  have d1' : RS T H W (xs_I (uF z AA x u) 28 (nI W.length)) (xs_I w 26 (nI W.length)) := ⟨rfl, rfl, d1.2.2.1, d1.2.2.2⟩
  have e1 : fm_Machine_doReference fu (nI 211) (nI (kF z AA x)) (uF z AA x u) = fm_Values_pushTruth__h61 (if (uF z AA x u).2.2.2 10 (W.length + 1) = (uF z AA x u).2.2.2 10 W.length then 1 else 0) (xs_I (xs_I (uF z AA x u) 28 (nI (W.length + 1))) 28 (nI W.length)) := by
    have : fm_Machine_doReference fu (nI 211) (nI (kF z AA x)) (uF z AA x u) = xs_seq (fm_Values_pop__h61 (uF z AA x u)) fun a8 u9 => xs_seq (fm_Values_pop__h61 u9) fun a10 u11 => if a8 = a10 then (jb_Machine_doReference_105 fu (1 : Int32) u11) else (jb_Machine_doReference_105 fu (0 : Int32) u11) := rfl
    rw [this, hp_pop (n := W.length + 1) (by rw [hRS.1, hl2]) hW18, ys_seq, hp_pop (n := W.length) rfl (by omega), ys_seq]
    unfold jb_Machine_doReference_105
    rw [xs_id, xs_id]
    have : (xs_I (uF z AA x u) 28 (nI (W.length + 1))).2.2.2 10 W.length = (uF z AA x u).2.2.2 10 W.length := rfl
    rw [this]
    by_cases q : (uF z AA x u).2.2.2 10 (W.length + 1) = (uF z AA x u).2.2.2 10 W.length
    · rw [if_pos q, if_pos q]
    · rw [if_neg q, if_neg q]
  have e2 : fm_Model_doReferences fu w = fm_Model_tell (if (uF z AA x u).2.2.2 10 (W.length + 1) = (uF z AA x u).2.2.2 10 W.length then (1 : Int32) else 0).toInt64 (xs_I w 26 (nI W.length)) := by
    unfold fm_Model_doReferences
    simp only [xs_let]
    rw [h8, if_neg (by decide), hRS.2.1, hl2, show nI (W.length + 2) - 1 = nI (W.length + 1) from nI_pred (n := W.length + 1), ix19 (by omega), if_neg (by decide), if_neg (by decide), if_pos (by decide), nI_sub2, show (nI (W.length + 1)).toNatClampNeg = W.length + 1 from nI_clamp (by omega)]
    have : (xs_I w 26 (nI W.length)).1 26 = nI W.length := rfl
    rw [this, ix19 (by omega), show (nI W.length).toNatClampNeg = W.length from nI_clamp (by omega)]
    unfold jb_Model_doReferences_126
    rw [xs_id, xs_id]
    have : (xs_I w 26 (nI W.length)).2.2.2 3 W.length = w.2.2.2 3 W.length := rfl
    rw [this]
    by_cases q : (uF z AA x u).2.2.2 10 (W.length + 1) = (uF z AA x u).2.2.2 10 W.length
    · rw [if_pos (hK.mp q).symm, if_pos q]; rfl
    · rw [if_neg (fun t => q (hK.mpr t.symm)), if_neg q]; rfl
  rw [e1, e2]
  have d2' : RS T H W (xs_I (xs_I (uF z AA x u) 28 (nI (W.length + 1))) 28 (nI W.length)) (xs_I w 26 (nI W.length)) := ⟨rfl, rfl, d1.2.2.1, d1.2.2.2⟩
  have hro := RO_truth (b := if (uF z AA x u).2.2.2 10 (W.length + 1) = (uF z AA x u).2.2.2 10 W.length then 1 else 0) d2' (by omega) z1 z2 (by
    by_cases q : (uF z AA x u).2.2.2 10 (W.length + 1) = (uF z AA x u).2.2.2 10 W.length
    · rw [if_pos q]; exact Or.inr rfl
    · rw [if_neg q]; exact Or.inl rfl)
  obtain ⟨u', v', g1, g2, g3, g4, g5⟩ := hro
  exact ⟨u', v', g1, g2, yf_trans (yf_I (yf_I yf_refl (by decide)) (by decide)) g3, yf_trans (yf_I yf_refl (by decide)) g4, g5⟩
/-- 0xd4 -/
theorem ri_212 (h : rFt D B len T F tc mc G z LL AA tt H x r tn y Qn u v w) (hi : y.2.1 = 212) (hP : rPs P x r tn) : RZ D B len T F tc mc G z LL AA tt P R (fm_Machine_step fu (u.2.2.1 7 (kF z AA x)) (nI (kF z AA x)) (uF z AA x u)) (mr_st fu w) := by
  have h7 : u.2.2.1 7 (kF z AA x) = nI 212 := by rw [h.2.1.2.2.1.1, if_neg (by omega), hi]
  have h8 : w.1 8 = nI 212 := by rw [h.2.2.2.1.2.2.2.1, if_pos (by omega), hi]
  obtain ⟨f0, q, hQ, hd⟩ := rf_Q h
  obtain ⟨z1, z2, z3, z4, z5⟩ := rf_0 h
  have hs := h.2.1.2.1
  unfold sq_step at hs
  rw [hi, if_neg (by decide), if_neg (by decide), if_neg (by decide), if_neg (by decide), if_neg (by decide), if_neg (by decide), if_neg (by decide), if_neg (by decide), if_neg (by decide), if_neg (by decide), if_neg (by decide), if_neg (by decide), if_neg (by decide), if_neg (by decide), if_neg (by decide), if_neg (by decide), if_neg (by decide), if_neg (by decide), if_neg (by decide), if_neg (by decide), if_neg (by decide), if_neg (by decide), if_pos rfl, hQ] at hs
  obtain ⟨yy, k1, hs⟩ := Option.bind_eq_some_iff.mp (show (sq_popR (f0 :: q)).bind (fun x => sq_push (sq_nn x.1) x.2) = some Qn from hs)
  have hRS := rf_RS' h hQ
  obtain ⟨s, b1, b2, b3, b4, b5⟩ := rf_popR hRS hd k1
  have hnn : sq_nn yy.1 = yy.1 - yy.1 % 2 := if_neg (by omega)
  rw [b1, hnn] at hs
  have hQn := sq_pushS hs
  rw [b5] at hRS
  rw [h7, hs_ref (by omega) (by omega), mr_ref h8 (by omega) (by omega)]
  refine rz_simple h.1 h.2.1 (by rw [hQ, hQn]; exact ⟨f0, _, q, rfl, rfl, ⟨rfl, rfl, rfl⟩, hd⟩) h.2.2.1 h.2.2.2.2.1 z3 (hP.2.1 _ _ (Nat.lt_succ_self _)) ?_
  have e : fW LL ((x.1, x.2.1 + 1, Qn) :: r) = ((fW LL r ++ LL x.1) ++ sq_f (sf_s f0 s :: q)) ++ [yy.1 - yy.1 % 2] := by
    show fW LL r ++ (LL x.1 ++ sq_f Qn) = _
    rw [hQn]
    show fW LL r ++ (LL x.1 ++ (sq_f q ++ ((yy.1 - yy.1 % 2) :: s).reverse)) = ((fW LL r ++ LL x.1) ++ (sq_f q ++ s.reverse)) ++ [yy.1 - yy.1 % 2]
    rw [List.reverse_cons]; simp only [List.append_assoc]
  rw [e]
  generalize hW : (fW LL r ++ LL x.1) ++ sq_f (sf_s f0 s :: q) = W at *
  have hl : (W ++ [yy.1]).length = W.length + 1 := by rw [List.length_append, List.length_singleton]
  have hl' : (W ++ [yy.1 - yy.1 % 2]).length = W.length + 1 := by rw [List.length_append, List.length_singleton]
  have hW18 : W.length < 18000 := by have := hRS.2.2.1; omega
  obtain ⟨c1, c2, c3⟩ := RS_pop hRS
  have hK := rK_0 (rf_RH h) (rv_K c2 b3)
  have e1 : fm_Machine_doReference fu (nI 212) (nI (kF z AA x)) (uF z AA x u) = if (uF z AA x u).2.2.2 10 W.length = 0 then some ((), xs_I (uF z AA x u) 27 8) else some ((), uF z AA x u) := by
    have : fm_Machine_doReference fu (nI 212) (nI (kF z AA x)) (uF z AA x u) = (if (((uF z AA x u).1 28) - (1 : Int32)) < 0 ∨ 18000 ≤ (((uF z AA x u).1 28) - (1 : Int32)).toNatClampNeg then none else if ((uF z AA x u).2.2.2 10 (((uF z AA x u).1 28) - (1 : Int32)).toNatClampNeg) = (0 : Int64) then some ((), xs_I (uF z AA x u) 27 8) else (some ((()), uF z AA x u))) := rfl
    rw [this, hRS.1, hl, nI_pred, ix18 hW18, show (nI W.length).toNatClampNeg = W.length from nI_clamp (by omega)]
  have e2 : fm_Model_doReferences fu w = if w.2.2.2 3 W.length = 0 then some ((), xs_I w 29 8) else some ((), xs_I w 29 0) := by
    unfold fm_Model_doReferences
    simp only [xs_let]
    rw [h8, if_neg (by decide), hRS.2.1, hl, nI_pred, ix19 (by omega), if_neg (by decide), if_neg (by decide), if_neg (by decide), if_pos (by decide), show (nI W.length).toNatClampNeg = W.length from nI_clamp (by omega)]
    rfl
  rw [e1, e2]
  by_cases q0 : (uF z AA x u).2.2.2 10 W.length = 0
  · rw [if_pos q0, if_pos (hK.mp q0)]
    exact RO_trap (t := 8) (by decide) (by decide)
  · rw [if_neg q0, if_neg (fun t => q0 (hK.mpr t))]
    refine ⟨_, _, rfl, rfl, yf_refl, yf_I yf_refl (by decide), Or.inl ⟨z1, rfl, ?_⟩⟩
    obtain ⟨g1, g2, g3, g4⟩ := hRS
    refine ⟨by rw [g1, hl, hl'], by show w.1 26 = _; rw [g2, hl, hl'], by rw [hl']; omega, fun i cc hc => ?_⟩
    by_cases zi : i = W.length
    · subst zi
      rw [List.getElem?_append_right (Nat.le_refl _), Nat.sub_self] at hc
      cases hc
      refine ⟨rv_nn c2 b3 (fun t => q0 (hK.mpr t)), ?_⟩
      show w.2.2.1 29 W.length = _
      rw [c3, if_pos b3, if_pos (by omega)]
    · have hil : i < W.length := by have := yl_lt hc; omega
      rw [List.getElem?_append_left hil] at hc
      exact g4 i cc (by rw [List.getElem?_append_left hil]; exact hc)
end
