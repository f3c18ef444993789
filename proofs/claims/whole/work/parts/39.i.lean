section
variable {α β γ δ σ τ : Type} {B : Nat → Int32} {u v w u' v' u0 v0 : xk_St} {T : List (Nat × List Nat × List Nat)} {F : List Nat} {G : List (Nat × Nat × Nat × Int64)} {L W0 : List Nat} {n fu tc mc lim p q len f D k tn tn' j d b g m i : Nat} {z : Nat → Nat} {LL : Nat → List Nat} {AA : Nat → sBo} {tt : Nat → Nat} {H H' : rH} {fs r rr : List rFr} {x x' : rFr} {c : Nat × List Nat × List Nat} {e : Nat × Nat × Nat × Nat} {y : Nat × sIn} {Q Qn Q1 : List sFr} {P : List rFr → Nat → Prop} {R : List Nat}
/-- 0xfb 15 -/
theorem ri_alen (h : rFt D B len T F tc mc G z LL AA tt H x r tn y Qn u v w) (hi : y.2.1 = 271) (hP : rPs P x r tn) : RZ D B len T F tc mc G z LL AA tt P R (fm_Machine_step fu (u.2.2.1 7 (kF z AA x)) (nI (kF z AA x)) (uF z AA x u)) (mr_st fu w) := by
  obtain ⟨g0, hk, h7, h9, er, hs⟩ := rf_obj (fu := fu) h (by omega)
  obtain ⟨z1, z2, z3, z4, z5⟩ := rf_0 h
  obtain ⟨f0, q, hQ, hd⟩ := rf_Q h
  rw [if_neg (by omega), if_pos hi, hQ] at hs
  obtain ⟨yy, k1, hs⟩ := Option.bind_eq_some_iff.mp (show (sq_popR (f0 :: q)).bind (fun x => xs_if (x.1 = 0 ∨ x.1 = 816 ∨ (20 ≤ x.1 ∧ yv_k T 94 ((x.1 - 20) / 2))) (sq_push 1 x.2)) = some Qn from hs)
  obtain ⟨hty, hs⟩ := xp_if hs
  have ho : y.2.1 - 256 = 15 := by omega
  rw [ho] at h9
  rw [h7, hs_obj (by omega) g0 hk, if_neg (by omega), if_pos (by omega), ho, er]
  have hRS := rf_RS' h hQ
  obtain ⟨s, b1, b2, b3, b4, b5⟩ := rf_popR hRS hd k1
  rw [b1] at hs
  have hQn := sq_pushS hs
  rw [b5] at hRS
  refine rz_simple h.1 h.2.1 (by rw [hQ, hQn]; exact ⟨f0, _, q, rfl, rfl, ⟨rfl, rfl, rfl⟩, hd⟩) h.2.2.1 h.2.2.2.2.1 z3 (hP.2.1 _ _ (Nat.lt_succ_self _)) ?_
  have ew : fW LL ((x.1, x.2.1 + 1, Qn) :: r) = ((fW LL r ++ LL x.1) ++ sq_f (sf_s f0 s :: q)) ++ [1] := by
    show fW LL r ++ (LL x.1 ++ sq_f Qn) = _
    rw [hQn]
    show fW LL r ++ (LL x.1 ++ (sq_f q ++ (1 :: s).reverse)) = ((fW LL r ++ LL x.1) ++ (sq_f q ++ s.reverse)) ++ [1]
    rw [List.reverse_cons]; simp only [List.append_assoc]
  rw [ew]
  generalize hW : (fW LL r ++ LL x.1) ++ sq_f (sf_s f0 s :: q) = W at *
  have hl : (W ++ [yy.1]).length = W.length + 1 := by rw [List.length_append, List.length_singleton]
  have hW18 : W.length < 18000 := by have := hRS.2.2.1; omega
  obtain ⟨c1, c2, c3⟩ := RS_pop hRS
  have u28 : (uF z AA x u).1 28 = nI (W.length + 1) := by rw [hRS.1, hl]
  have w26 : w.1 26 = nI (W.length + 1) := by rw [hRS.2.1, hl]
  have hH := (rf_RD h).1
  obtain ⟨hz, -⟩ := RHp_iff.mp hH
  have hK := rK_0 hH (rv_K c2 b3)
  have e1 : fm_Machine_doArray fu (nI 15) ((uF z AA x u).2.2.1 8 (kF z AA x)) ((uF z AA x u).2.2.2 2 (kF z AA x)).toInt32 (uF z AA x u) = if ((uF z AA x u).2.2.2 10 W.length).toInt32 = 0 then some ((), xs_I (xs_I (uF z AA x u) 28 (nI W.length)) 27 8) else (if ((uF z AA x u).2.2.2 10 W.length).toInt32 < 0 ∨ 2001 ≤ ((uF z AA x u).2.2.2 10 W.length).toInt32.toNatClampNeg then none else fm_Values_push__h61 (((uF z AA x u).2.2.1 41 ((uF z AA x u).2.2.2 10 W.length).toInt32.toNatClampNeg).toInt64) (xs_I (uF z AA x u) 28 (nI W.length))) := by
    unfold fm_Machine_doArray
    rw [if_neg (by decide), if_neg (by decide), if_neg (by decide), if_neg (by decide), if_neg (by decide), if_neg (by decide), if_neg (by decide), if_neg (by decide), if_neg (by decide), if_pos (by decide), hp_pop u28 hW18, ys_seq]
    unfold jb_Machine_doArray_130
    simp only [xs_let]
    rw [xs_id]; rfl
  have e2 : fm_Model_doObjects fu w = if w.2.2.2 3 W.length = 0 then some ((), xs_I (xs_I w 26 (nI W.length)) 29 8) else (if (w.2.2.2 3 W.length / 2).toInt32 - 1 < 0 ∨ 2001 ≤ ((w.2.2.2 3 W.length / 2).toInt32 - 1).toNatClampNeg then none else fm_Model_tell ((w.2.2.1 38 ((w.2.2.2 3 W.length / 2).toInt32 - 1).toNatClampNeg).toInt64) (xs_I w 26 (nI W.length))) := by
    unfold fm_Model_doObjects
    rw [h9, if_pos (by decide), if_pos (by decide), if_pos (by decide), if_neg (by decide), xs_id]
    unfold fm_Model_doArray jb_Model_doArray_21 jb_Model_doArray_48
    rw [h9, if_neg (by decide), if_neg (by decide), if_neg (by decide), if_pos (by decide)]
    unfold jb_Model_doArray_70
    rw [mp_drop w26 hW18, ys_seq]
    simp only [xs_let]
    have w9 : (xs_I w 26 (nI W.length)).1 9 = nI 15 := h9
    rw [w9, if_neg (show ¬ (2 : Int64) = 0 by decide), if_pos (show nI 15 = (15 : Int32) from rfl), xs_id]; rfl
  rw [e1, e2]
  by_cases c0 : (uF z AA x u).2.2.2 10 W.length = 0
  · rw [if_pos (by rw [c0]; decide), if_pos (hK.mp c0)]
    exact ⟨_, _, rfl, rfl, yf_I (yf_I yf_refl (by decide)) (by decide), yf_I (yf_I yf_refl (by decide)) (by decide), Or.inr ⟨8, by decide, by decide, rfl, rfl⟩⟩
  · have hob : ∃ (k : Nat) (e : Nat × Nat × Nat × Nat), H[k]? = some e ∧ (uF z AA x u).2.2.2 10 W.length = lN e.1 ∧ w.2.2.2 3 W.length = lN (2 * e.2.1 + 2) := by
      have c2' := c2
      rcases c2' with ⟨a, -⟩ | ⟨a, -⟩ | ⟨-, h150, hr⟩
      · omega
      · omega
      rcases hr with ⟨r1, -⟩ | ⟨r1, r2, -⟩ | ⟨r1, k, e, r2, r3, r4, r5⟩
      · exact absurd r1 c0
      · omega
      · exact ⟨k, e, r2, r3, r4⟩
    obtain ⟨k, e, he, r1, r2⟩ := hob
    obtain ⟨i1, i2, i3, i4⟩ := rh_obj hz he
    obtain ⟨⟨d1, d2, d3⟩, ⟨o1, o2, o3, o4, o5⟩, ⟨q1, q2, q3, q4⟩, -⟩ := hz.2.1 k e he
    rw [r1, r2, i1, if_neg (show ¬ nI e.1 = 0 from fun q => i2 (i1.trans q)), if_neg i3, i4, ix2001 (by omega), ix2001 (by omega), show (nI e.2.1).toNatClampNeg = e.2.1 from nI_clamp (by omega), show (nI e.1).toNatClampNeg = e.1 from nI_clamp (by omega), o2, q2]
    exact RO_i (RO_push c1 hW18 z1 z2 rv_i (by decide))
end
