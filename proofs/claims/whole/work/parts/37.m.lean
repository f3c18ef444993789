section
variable {α β γ δ σ τ : Type} {B : Nat → Int32} {u v w u' v' u0 v0 : xk_St} {T : List (Nat × List Nat × List Nat)} {F : List Nat} {G : List (Nat × Nat × Nat × Int64)} {L W0 : List Nat} {n fu tc mc lim p q len f D k tn tn' j d b g m : Nat} {z : Nat → Nat} {LL : Nat → List Nat} {AA : Nat → sBo} {tt : Nat → Nat} {H H' : rH} {fs r rr : List rFr} {x x' : rFr} {c : Nat × List Nat × List Nat} {y : Nat × sIn} {Q Qn Q1 : List sFr} {P : List rFr → Nat → Prop} {R : List Nat}
/-- two numbers are taken off on both sides -/
theorem RS_n2 {t : Nat} (h : RS T H (L ++ [t, t]) u v) (ht : t = 1 ∨ t = 2) : ∃ a b : Int64, ∃ u1 v1 u2 v2, fm_Values_pop__h61 u = some (b, u1) ∧ fm_Model_drop v = some (b, v1) ∧ fm_Values_pop__h61 u1 = some (a, u2) ∧ fm_Model_drop v1 = some (a, v2) ∧ (t = 1 → a.toInt32.toInt64 = a ∧ b.toInt32.toInt64 = b) ∧ RS T H L u2 v2 ∧ L.length < 18000 ∧ u2 = xs_I (xs_I u 28 (nI (L ++ [t]).length)) 28 (nI L.length) ∧ v2 = xs_I (xs_I v 26 (nI (L ++ [t]).length)) 26 (nI L.length) ∧ v1 = xs_I v 26 (nI (L ++ [t]).length) := by
  have h : RS T H ((L ++ [t]) ++ [t]) u v := by rw [List.append_assoc]; exact h
  obtain ⟨b, b1, b2, b3, b4, b5⟩ := RS_n h ht
  obtain ⟨a, a1, a2, a3, a4, a5⟩ := RS_n b4 ht
  exact ⟨a, b, _, _, _, _, b1, b2, a1, a2, fun e => ⟨a3 e, b3 e⟩, a4, a5, rfl, rfl, rfl⟩
theorem RO_ii {ou ov : Option (Unit × xk_St)} {m1 m2 : Nat} (h : RO T H L (xs_I (xs_I u 28 (nI m1)) 28 (nI m2)) (xs_I (xs_I v 26 (nI m1)) 26 (nI m2)) ou ov) : RO T H L u v ou ov := RO_i (RO_i h)
theorem sn_1 {o : Nat} (h : o = 69 ∨ (103 ≤ o ∧ o ≤ 105)) : sn_k o = (1, 1, 1) := by
  unfold sn_k
  rcases h with h | h
  · rw [if_pos (by omega), if_pos h]
  · rw [if_neg (by omega), if_neg (by omega), if_pos (by omega), if_pos (by omega)]
theorem sq_num1 {o a b c : Nat} {Q Q' : List sFr} (h : sq_num T o Q = some Q') (hk : sn_k o = (a, b, c)) : sq_sg T (List.replicate a b) [c] Q = some Q' := by
  unfold sq_num at h
  rw [hk] at h
  exact h
theorem rf_num (h : rFt D B len T F tc mc G z LL AA tt H x r tn y Qn u v w) (hi : 67 ≤ y.2.1 ∧ y.2.1 < 208) : sq_num T y.2.1 x.2.2 = some Qn ∧ w.1 8 = nI y.2.1 ∧ fm_Machine_step fu (u.2.2.1 7 (kF z AA x)) (nI (kF z AA x)) (uF z AA x u) = fm_Machine_doNumeric fu (nI y.2.1) (uF z AA x u) ∧ mr_st fu w = fm_Model_doNumbers fu w := by
  have h7 : u.2.2.1 7 (kF z AA x) = nI y.2.1 := by rw [h.2.1.2.2.1.1, if_neg (by omega)]
  have h8 : w.1 8 = nI y.2.1 := by rw [h.2.2.2.1.2.2.2.1, if_pos (by omega)]
  have hs := h.2.1.2.1
  unfold sq_step at hs
  rw [if_neg (by omega), if_neg (by omega), if_neg (by omega), if_neg (by omega), if_neg (by omega), if_neg (by omega), if_neg (by omega), if_neg (by omega), if_neg (by omega), if_neg (by omega), if_neg (by omega), if_neg (by omega), if_neg (by omega), if_neg (by omega), if_neg (by omega), if_neg (by omega), if_neg (by omega), if_neg (by omega), if_pos (by omega)] at hs
  refine ⟨hs, h8, ?_, mr_num h8 (by omega) (by omega)⟩
  rw [h7, hs_num (by omega) (by omega)]
theorem mn_le {a o : Nat} (ha : a < 300) (ho : o < 300) : ((nI a ≤ nI o) ↔ a ≤ o) := nI_leI (by omega) (by omega)
theorem mn_lt {a o : Nat} (ha : a < 300) (ho : o < 300) : ((nI a < nI o) ↔ a < o) := nI_ltI (by omega) (by omega)
theorem mn_eq {a o : Nat} (ha : a < 300) (ho : o < 300) : ((nI o = nI a) ↔ o = a) := nI_eq (by omega) (by omega)
/-- 0x45 and 0x50 -/
theorem ri_69 (h : rFt D B len T F tc mc G z LL AA tt H x r tn y Qn u v w) (hi : y.2.1 = 69 ∨ y.2.1 = 80) (hP : rPs P x r tn) : RZ D B len T F tc mc G z LL AA tt P R (fm_Machine_step fu (u.2.2.1 7 (kF z AA x)) (nI (kF z AA x)) (uF z AA x u)) (mr_st fu w) := by
  obtain ⟨hs, h8, es, er⟩ := rf_num (fu := fu) h (by omega)
  obtain ⟨z1, z2, z3, z4, z5⟩ := rf_0 h
  have hk : ∃ t, (t = 1 ∨ t = 2) ∧ sn_k y.2.1 = (1, t, 1) := by
    rcases hi with t | t <;> rw [t]
    · exact ⟨1, Or.inl rfl, by decide⟩
    · exact ⟨2, Or.inr rfl, by decide⟩
  obtain ⟨t, ht, hk⟩ := hk
  have hs := sq_num1 hs hk
  rw [es, er]
  refine ri_sgX h hP hs (fun w hw => by rw [List.mem_replicate] at hw; omega) fun X hX hRS => ?_
  generalize hW : (fW LL r ++ LL x.1) ++ X = W at *
  have hRS : RS T H (W ++ [t]) (uF z AA x u) w := hRS
  obtain ⟨a, a1, a2, a3, a4, a5⟩ := RS_n hRS ht
  have e1 : fm_Machine_doNumeric fu (nI y.2.1) (uF z AA x u) = fm_Values_pushTruth__h61 (if a = 0 then 1 else 0) (xs_I (uF z AA x u) 28 (nI W.length)) := by
    have : fm_Machine_doNumeric fu (nI y.2.1) (uF z AA x u) = jb_Machine_doNumeric_12 fu (uF z AA x u) := by
      unfold fm_Machine_doNumeric
      rcases hi with t | t <;> rw [t]
      · rw [if_pos (by decide)]
      · rw [if_neg (by decide), if_pos (by decide)]
    rw [this]
    unfold jb_Machine_doNumeric_12 jb_Machine_doNumeric_33
    rw [a1, ys_seq, xs_id, xs_id]
    by_cases c : a = 0
    · rw [if_pos c, if_pos c]
    · rw [if_neg c, if_neg c]
  have e2 : fm_Model_doNumbers fu w = fm_Model_tell (if a = 0 then (1 : Int32) else 0).toInt64 (xs_I w 26 (nI W.length)) := by
    unfold fm_Model_doNumbers
    have c8 : (xs_I w 26 (nI W.length)).1 8 = nI y.2.1 := h8
    rw [h8, if_pos (show (67 : Int32) ≤ nI y.2.1 from (mn_le (a := 67) (by decide) (by omega)).mpr (by omega)), a2, ys_seq, c8]
    have : ∀ q, (if nI y.2.1 = 69 then jb_Model_doNumbers_41 fu a (xs_I w 26 (nI W.length)) else if nI y.2.1 = 80 then jb_Model_doNumbers_41 fu a (xs_I w 26 (nI W.length)) else q) = jb_Model_doNumbers_41 fu a (xs_I w 26 (nI W.length)) := fun q => by
      rcases hi with t | t <;> rw [t]
      · rw [if_pos (by decide)]
      · rw [if_neg (by decide), if_pos (by decide)]
    rw [this]
    unfold jb_Model_doNumbers_41 jb_Model_doNumbers_53
    rw [xs_id, xs_id]
    by_cases c : a = 0
    · rw [if_pos c, if_pos c]; rfl
    · rw [if_neg c, if_neg c]; rfl
  rw [e1, e2]
  refine RO_i (RO_truth a4 a5 z1 z2 ?_)
  by_cases c : a = 0
  · rw [if_pos c]; exact Or.inr rfl
  · rw [if_neg c]; exact Or.inl rfl
/-- 0x46 .. 0x4f and 0x51 .. 0x5a -/
theorem ri_70 (h : rFt D B len T F tc mc G z LL AA tt H x r tn y Qn u v w) (hi : (70 ≤ y.2.1 ∧ y.2.1 ≤ 79) ∨ (81 ≤ y.2.1 ∧ y.2.1 ≤ 90)) (hP : rPs P x r tn) : RZ D B len T F tc mc G z LL AA tt P R (fm_Machine_step fu (u.2.2.1 7 (kF z AA x)) (nI (kF z AA x)) (uF z AA x u)) (mr_st fu w) := by
  obtain ⟨hs, h8, es, er⟩ := rf_num (fu := fu) h (by omega)
  obtain ⟨z1, z2, z3, z4, z5⟩ := rf_0 h
  have hk : ∃ t, (t = 1 ∨ t = 2) ∧ sn_k y.2.1 = (2, t, 1) := by
    unfold sn_k
    rcases hi with t | t
    · exact ⟨1, Or.inl rfl, by rw [if_pos (by omega), if_neg (by omega)]⟩
    · exact ⟨2, Or.inr rfl, by rw [if_neg (by omega), if_pos (by omega), if_neg (by omega)]⟩
  obtain ⟨t, ht, hk⟩ := hk
  have hs := sq_num1 hs hk
  rw [es, er]
  refine ri_sgX h hP hs (fun w hw => by rw [List.mem_replicate] at hw; omega) fun X hX hRS => ?_
  generalize hW : (fW LL r ++ LL x.1) ++ X = W at *
  have hRS : RS T H (W ++ [t, t]) (uF z AA x u) w := hRS
  obtain ⟨a, b, u1, v1, u2, v2, p1, p2, p3, p4, p5, p6, p7, p8, p9, p10⟩ := RS_n2 hRS ht
  obtain ⟨rr', hr01, hr1, hr2⟩ := n_cmp (s0 := if (80 : Int32) ≤ nI y.2.1 then nI y.2.1 - 81 else nI y.2.1 - 70) a b
  have e1 : fm_Machine_doNumeric fu (nI y.2.1) (uF z AA x u) = fm_Values_pushTruth__h61 rr' u2 := by
    unfold fm_Machine_doNumeric
    rw [if_neg (fun q => by have := (mn_eq (a := 69) (by decide) (by omega)).mp q; omega), if_neg (fun q => by have := (mn_eq (a := 80) (by decide) (by omega)).mp q; omega), if_neg (fun q => by have := (mn_lt (a := 90) (by decide) (by omega)).mp q; omega), p1, ys_seq]
    have : ∀ s0, jb_Machine_doNumeric_74 fu b s0 u1 = xs_seq (fm_Numbers_holds s0 a b u2) fun a21 u22 => fm_Values_pushTruth__h61 a21 u22 := fun s0 => by
      unfold jb_Machine_doNumeric_74
      rw [p3, ys_seq]
      have : (fun (a21 : Int32) (u22 : xk_St) => xs_seq (fm_Values_pushTruth__h61 a21 u22) fun _ u23 => some ((), u23)) = fun a21 u22 => fm_Values_pushTruth__h61 a21 u22 := by
        funext a21 u22
        rw [xs_id]
      rw [this]
    rw [this, this]
    by_cases c : (80 : Int32) ≤ nI y.2.1
    · rw [if_pos c] at hr1 ⊢
      rw [hr1, ys_seq]
    · rw [if_neg c] at hr1 ⊢
      rw [hr1, ys_seq]
  have e2 : fm_Model_doNumbers fu w = fm_Model_tell rr'.toInt64 v2 := by
    unfold fm_Model_doNumbers
    have c8 : v1.1 8 = nI y.2.1 := by rw [p10]; exact h8
    have c9 : v2.1 8 = nI y.2.1 := by rw [p9]; exact h8
    rw [h8, if_pos (show (67 : Int32) ≤ nI y.2.1 from (mn_le (a := 67) (by decide) (by omega)).mpr (by omega)), p2, ys_seq, c8, if_neg (fun q => by have := (mn_eq (a := 69) (by decide) (by omega)).mp q; omega), if_neg (fun q => by have := (mn_eq (a := 80) (by decide) (by omega)).mp q; omega), if_neg (fun q => by have := (mn_le (a := 91) (by decide) (by omega)).mp q; omega), p4, ys_seq, c9]
    have : ∀ s0, jb_Model_doNumbers_100 fu b a s0 v2 = xs_seq (fm_Model_compares s0 a b v2) fun a19 u20 => fm_Model_tell (if a19 = 0 then 0 else 1) u20 := fun s0 => by
      unfold jb_Model_doNumbers_100 jb_Model_doNumbers_113
      congr 1
      funext a19 u20
      by_cases c : a19 = 0
      · rw [if_pos c, if_pos c, xs_id]
      · rw [if_neg c, if_neg c, xs_id]
    rw [this, this]
    have et : (if rr' = 0 then (0 : Int64) else 1) = rr'.toInt64 := by
      rcases hr01 with q | q <;> rw [q] <;> rfl
    by_cases c : (80 : Int32) ≤ nI y.2.1
    · rw [if_pos c] at hr2 ⊢
      rw [hr2, ys_seq, et]
    · rw [if_neg c] at hr2 ⊢
      rw [hr2, ys_seq, et]
  rw [e1, e2]
  have hro := RO_truth p6 p7 (by rw [p8]; exact z1) (by rw [p9]; exact z2) hr01
  rw [p8, p9] at hro ⊢
  exact RO_ii hro
end
