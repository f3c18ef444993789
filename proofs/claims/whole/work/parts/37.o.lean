section
variable {α β γ δ σ τ : Type} {B : Nat → Int32} {u v w u' v' u0 v0 : xk_St} {T : List (Nat × List Nat × List Nat)} {F : List Nat} {G : List (Nat × Nat × Nat × Int64)} {L W0 : List Nat} {n fu tc mc lim p q len f D k tn tn' j d b g m : Nat} {z : Nat → Nat} {LL : Nat → List Nat} {AA : Nat → sBo} {tt : Nat → Nat} {H H' : rH} {fs r rr : List rFr} {x x' : rFr} {c : Nat × List Nat × List Nat} {y : Nat × sIn} {Q Qn Q1 : List sFr} {P : List rFr → Nat → Prop} {R : List Nat}
/-- what becomes of a number of the one width in the other -/
def cvN (o : Nat) (a : Int64) : Int64 := if o = 167 ∨ o = 196 then a.toInt32.toInt64 else if o = 172 then a else if o = 173 then a &&& 4294967295 else if o = 192 ∨ o = 194 then (a <<< (((64 : Int32) - nI 8).toInt64 &&& 63)) >>> (((64 : Int32) - nI 8).toInt64 &&& 63) else (a <<< (((64 : Int32) - nI 16).toInt64 &&& 63)) >>> (((64 : Int32) - nI 16).toInt64 &&& 63)
theorem ri_167 (h : rFt D B len T F tc mc G z LL AA tt H x r tn y Qn u v w) (hi : y.2.1 = 167 ∨ y.2.1 = 172 ∨ y.2.1 = 173 ∨ (192 ≤ y.2.1 ∧ y.2.1 ≤ 196)) (hP : rPs P x r tn) : RZ D B len T F tc mc G z LL AA tt P R (fm_Machine_step fu (u.2.2.1 7 (kF z AA x)) (nI (kF z AA x)) (uF z AA x u)) (mr_st fu w) := by
  obtain ⟨hs, h8, es, er⟩ := rf_num (fu := fu) h (by omega)
  obtain ⟨z1, z2, z3, z4, z5⟩ := rf_0 h
  have hoo : y.2.1 = 167 ∨ y.2.1 = 172 ∨ y.2.1 = 173 ∨ y.2.1 = 192 ∨ y.2.1 = 193 ∨ y.2.1 = 194 ∨ y.2.1 = 195 ∨ y.2.1 = 196 := by omega
  generalize ho : y.2.1 = o at *
  have hk : ∃ t t', (t = 1 ∨ t = 2) ∧ (t' = 1 ∨ t' = 2) ∧ sn_k o = (1, t, t') ∧ (t' = 1 → o = 167 ∨ o = 192 ∨ o = 193) := by
    rcases hoo with q | q | q | q | q | q | q | q <;> rw [q]
    · exact ⟨2, 1, Or.inr rfl, Or.inl rfl, by decide, by decide⟩
    · exact ⟨1, 2, Or.inl rfl, Or.inr rfl, by decide, by decide⟩
    · exact ⟨1, 2, Or.inl rfl, Or.inr rfl, by decide, by decide⟩
    · exact ⟨1, 1, Or.inl rfl, Or.inl rfl, by decide, by decide⟩
    · exact ⟨1, 1, Or.inl rfl, Or.inl rfl, by decide, by decide⟩
    · exact ⟨2, 2, Or.inr rfl, Or.inr rfl, by decide, by decide⟩
    · exact ⟨2, 2, Or.inr rfl, Or.inr rfl, by decide, by decide⟩
    · exact ⟨2, 2, Or.inr rfl, Or.inr rfl, by decide, by decide⟩
  obtain ⟨t, t', ht, ht', hk, h1⟩ := hk
  have hs := sq_num1 hs hk
  rw [es, er]
  refine ri_sgX h hP hs (fun w hw => by rw [List.mem_replicate] at hw; omega) fun X hX hRS => ?_
  generalize hW : (fW LL r ++ LL x.1) ++ X = W at *
  have hRS : RS T H (W ++ [t]) (uF z AA x u) w := hRS
  obtain ⟨a, a1, a2, a3, a4, a5⟩ := RS_n hRS ht
  have h81 : (xs_I w 26 (nI W.length)).1 8 = nI o := h8
  have e1 : fm_Machine_doNumeric fu (nI o) (uF z AA x u) = fm_Values_push__h61 (cvN o a) (xs_I (uF z AA x u) 28 (nI W.length)) := by
    unfold fm_Machine_doNumeric
    rw [if_neg (fun q => by have := (mn_eq (a := 69) (by decide) (by omega)).mp q; omega), if_neg (fun q => by have := (mn_eq (a := 80) (by decide) (by omega)).mp q; omega), if_pos (show (90 : Int32) < nI o from (mn_lt (a := 90) (by decide) (by omega)).mpr (by omega)), if_pos (show (105 : Int32) < nI o from (mn_lt (a := 105) (by decide) (by omega)).mpr (by omega)), if_pos (show (120 : Int32) < nI o from (mn_lt (a := 120) (by decide) (by omega)).mpr (by omega)), if_pos (show (123 : Int32) < nI o from (mn_lt (a := 123) (by decide) (by omega)).mpr (by omega)), if_pos (show (138 : Int32) < nI o from (mn_lt (a := 138) (by decide) (by omega)).mpr (by omega)), xs_id]
    unfold fm_Machine_convert jb_Machine_convert_72 jb_Machine_convert_90 jb_Machine_convert_105 fm_Numbers_signed cvN
    rw [a1, ys_seq, ys_seq, ys_seq]
    simp only [xs_id]
    rcases hoo with q | q | q | q | q | q | q | q <;> rw [q]
    · rw [if_pos (by decide), if_pos (by decide)]
    · rw [if_neg (by decide), if_pos (by decide), if_neg (by decide), if_pos (by decide)]
    · rw [if_neg (by decide), if_neg (by decide), if_pos (by decide), if_neg (by decide), if_neg (by decide), if_pos (by decide)]
    · rw [if_neg (by decide), if_neg (by decide), if_neg (by decide), if_pos (by decide), if_neg (by decide), if_neg (by decide), if_neg (by decide), if_pos (by decide)]; rfl
    · rw [if_neg (by decide), if_neg (by decide), if_neg (by decide), if_neg (by decide), if_neg (by decide), if_neg (by decide), if_neg (by decide), if_neg (by decide), if_neg (by decide), if_neg (by decide)]; rfl
    · rw [if_neg (by decide), if_neg (by decide), if_neg (by decide), if_neg (by decide), if_pos (by decide), if_neg (by decide), if_neg (by decide), if_neg (by decide), if_pos (by decide)]; rfl
    · rw [if_neg (by decide), if_neg (by decide), if_neg (by decide), if_neg (by decide), if_neg (by decide), if_neg (by decide), if_neg (by decide), if_neg (by decide), if_neg (by decide), if_neg (by decide)]; rfl
    · rw [if_neg (by decide), if_neg (by decide), if_neg (by decide), if_neg (by decide), if_neg (by decide), if_pos (by decide), if_pos (by decide)]
  have e2 : fm_Model_doNumbers fu w = fm_Model_tell (cvN o a) (xs_I w 26 (nI W.length)) := by
    unfold fm_Model_doNumbers
    rw [h8, if_pos (show (67 : Int32) ≤ nI o from (mn_le (a := 67) (by decide) (by omega)).mpr (by omega)), a2, ys_seq, h81, if_neg (fun q => by have := (mn_eq (a := 69) (by decide) (by omega)).mp q; omega), if_neg (fun q => by have := (mn_eq (a := 80) (by decide) (by omega)).mp q; omega), if_pos (show (91 : Int32) ≤ nI o from (mn_le (a := 91) (by decide) (by omega)).mpr (by omega)), if_pos (show (139 : Int32) ≤ nI o from (mn_le (a := 139) (by decide) (by omega)).mpr (by omega))]
    unfold jb_Model_doNumbers_287 jb_Model_doNumbers_312 jb_Model_doNumbers_319 fm_Model_sx jb_Model_doNumbers_322 cvN
    simp only [xs_id, ys_seq]
    rcases hoo with q | q | q | q | q | q | q | q <;> rw [q]
    · rw [if_neg (by decide), if_neg (by decide), if_pos (by decide), if_pos (by decide), sx_32]
    · rw [if_neg (by decide), if_pos (by decide), if_neg (by decide), if_pos (by decide)]
    · rw [if_pos (by decide), if_neg (by decide), if_neg (by decide), if_pos (by decide)]
    · rw [if_neg (by decide), if_neg (by decide), if_neg (by decide), if_neg (by decide), if_pos (by decide), if_neg (by decide), if_neg (by decide), if_neg (by decide), if_pos (by decide)]; rfl
    · rw [if_neg (by decide), if_neg (by decide), if_neg (by decide), if_neg (by decide), if_neg (by decide), if_neg (by decide), if_neg (by decide), if_neg (by decide), if_neg (by decide), if_neg (by decide)]; rfl
    · rw [if_neg (by decide), if_neg (by decide), if_neg (by decide), if_neg (by decide), if_neg (by decide), if_pos (by decide), if_neg (by decide), if_neg (by decide), if_neg (by decide), if_pos (by decide)]; rfl
    · rw [if_neg (by decide), if_neg (by decide), if_neg (by decide), if_neg (by decide), if_neg (by decide), if_neg (by decide), if_neg (by decide), if_neg (by decide), if_neg (by decide), if_neg (by decide)]; rfl
    · rw [if_neg (by decide), if_neg (by decide), if_neg (by decide), if_pos (by decide), if_pos (by decide), sx_32]
  rw [e1, e2]
  refine RO_i (RO_push a4 a5 z1 z2 ?_ (by omega))
  rcases ht' with q | q <;> rw [q]
  · refine rv_n1 ?_
    unfold cvN
    rcases h1 q with g | g | g <;> rw [g]
    · rw [if_pos (by decide), Int32.toInt32_toInt64]
    · rw [if_neg (by decide), if_neg (by decide), if_neg (by decide), if_pos (by decide), sx_n a (Or.inl rfl)]
    · rw [if_neg (by decide), if_neg (by decide), if_neg (by decide), if_neg (by decide), sx_n a (Or.inr rfl)]
  · exact rv_n2
/-- the instructions on numbers -/
theorem ri_num (hfu : 18000 < fu) (h : rFt D B len T F tc mc G z LL AA tt H x r tn y Qn u v w) (hi : 67 ≤ y.2.1 ∧ y.2.1 < 208) (hP : rPs P x r tn) : RZ D B len T F tc mc G z LL AA tt P R (fm_Machine_step fu (u.2.2.1 7 (kF z AA x)) (nI (kF z AA x)) (uF z AA x u)) (mr_st fu w) := by
  have hg := h.2.1.2.2.2.2.2.2.1
  have ho := o_num hi.2 hi.1 hg.2.1 hg.2.2.1
  by_cases c1 : y.2.1 = 69 ∨ y.2.1 = 80
  · exact ri_69 h c1 hP
  by_cases c2 : (70 ≤ y.2.1 ∧ y.2.1 ≤ 79) ∨ (81 ≤ y.2.1 ∧ y.2.1 ≤ 90)
  · exact ri_70 h c2 hP
  by_cases c3 : (103 ≤ y.2.1 ∧ y.2.1 ≤ 105) ∨ (121 ≤ y.2.1 ∧ y.2.1 ≤ 123)
  · exact ri_103 hfu h c3 hP
  by_cases c4 : (106 ≤ y.2.1 ∧ y.2.1 ≤ 120) ∨ (124 ≤ y.2.1 ∧ y.2.1 ≤ 138)
  · exact ri_106 h c4 hP
  · exact ri_167 h (by omega) hP
end
