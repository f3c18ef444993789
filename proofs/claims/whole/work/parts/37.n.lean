section
variable {α β γ δ σ τ : Type} {B : Nat → Int32} {u v w u' v' u0 v0 : xk_St} {T : List (Nat × List Nat × List Nat)} {F : List Nat} {G : List (Nat × Nat × Nat × Int64)} {L W0 : List Nat} {n fu tc mc lim p q len f D k tn tn' j d b g m : Nat} {z : Nat → Nat} {LL : Nat → List Nat} {AA : Nat → sBo} {tt : Nat → Nat} {H H' : rH} {fs r rr : List rFr} {x x' : rFr} {c : Nat × List Nat × List Nat} {y : Nat × sIn} {Q Qn Q1 : List sFr} {P : List rFr → Nat → Prop} {R : List Nat}
theorem sx_b (b : BitVec 64) : (b <<< 32).sshiftRight 32 = (b.setWidth 32).signExtend 64 := by
  apply BitVec.eq_of_getElem_eq
  intro i hi
  rw [BitVec.getElem_sshiftRight, BitVec.getElem_signExtend]
  by_cases h : i < 32
  · have h1 : 32 + i < 64 := by omega
    have h2 : ¬ 32 + i < 32 := by omega
    simp [h, h1, h2]
    exact (BitVec.getLsbD_eq_getElem hi).symm
  · have h1 : ¬ 32 + i < 64 := by omega
    simp [h, h1, BitVec.msb_eq_getLsbD_last]
theorem sx_32 (a : Int64) : (a <<< (((64 : Int32) - (32 : Int32)).toInt64 &&& 63)) >>> (((64 : Int32) - (32 : Int32)).toInt64 &&& 63) = a.toInt32.toInt64 := by
  refine Int64.toBitVec_inj.1 ?_
  have e : ((64 : Int32) - (32 : Int32)) = nI 32 := by decide
  rw [e, sl_shr _ (by decide), sl_shl _ (by decide), sx_b, Int32.toBitVec_toInt64, tb32]
theorem sx_n {n : Nat} (a : Int64) (hn : n = 8 ∨ n = 16) : ((a <<< (((64 : Int32) - nI n).toInt64 &&& 63)) >>> (((64 : Int32) - nI n).toInt64 &&& 63)).toInt32.toInt64 = (a <<< (((64 : Int32) - nI n).toInt64 &&& 63)) >>> (((64 : Int32) - nI n).toInt64 &&& 63) := by
  have e : ((64 : Int32) - nI n) = nI (64 - n) := by rcases hn with rfl | rfl <;> decide
  rw [e]
  have h := yz_ext a (n := n) (by omega) (by omega)
  have hb : -(2 ^ 16 : Int) ≤ a.toInt.bmod (2 ^ n) ∧ a.toInt.bmod (2 ^ n) ≤ 2 ^ 16 := by
    rcases hn with rfl | rfl
    · have h1 := Int.le_bmod (x := a.toInt) (m := 2 ^ 8) (by decide)
      have h2 := Int.bmod_lt (x := a.toInt) (m := 2 ^ 8) (by decide)
      omega
    · have h1 := Int.le_bmod (x := a.toInt) (m := 2 ^ 16) (by decide)
      have h2 := Int.bmod_lt (x := a.toInt) (m := 2 ^ 16) (by decide)
      omega
  exact fits32 _ (by rw [h]; omega) (by rw [h]; omega)
theorem mn_202 {b3 : Int32} {s0 : Int64} : jb_Model_doNumbers_202 fu b3 s0 v = fm_Model_tell (if b3 = 32 then s0.toInt32.toInt64 else s0) v := by
  unfold jb_Model_doNumbers_202 jb_Model_doNumbers_223 fm_Model_sx
  by_cases c : b3 = 32
  · rw [if_pos c, if_pos c, ys_seq, xs_id, sx_32]
  · rw [if_neg c, if_neg c, xs_id]
/-- what the reference does with 0x67 .. 0x8a -/
theorem mn_145 {o : Nat} {a : Int64} {v1 : xk_St} (h8 : w.1 8 = nI o) (h81 : v1.1 8 = nI o) (ho : 103 ≤ o ∧ o ≤ 138) (hd : fm_Model_drop w = some (a, v1)) : fm_Model_doNumbers fu w = jb_Model_doNumbers_172 fu a (if 121 ≤ o then 64 else 32) (nI (if 121 ≤ o then o - 121 else o - 103)) v1 := by
  unfold fm_Model_doNumbers
  rw [h8, if_pos (show (67 : Int32) ≤ nI o from (mn_le (a := 67) (by decide) (by omega)).mpr (by omega)), hd, ys_seq, h81, if_neg (fun q => by have := (mn_eq (a := 69) (by decide) (by omega)).mp q; omega), if_neg (fun q => by have := (mn_eq (a := 80) (by decide) (by omega)).mp q; omega), if_pos (show (91 : Int32) ≤ nI o from (mn_le (a := 91) (by decide) (by omega)).mpr (by omega)), if_neg (fun q => by have := (mn_le (a := 139) (by decide) (by omega)).mp q; omega)]
  unfold jb_Model_doNumbers_145
  rw [h81]
  by_cases c : 121 ≤ o
  · rw [if_pos (show (121 : Int32) ≤ nI o from (mn_le (a := 121) (by decide) (by omega)).mpr c), if_pos (show (121 : Int32) ≤ nI o from (mn_le (a := 121) (by decide) (by omega)).mpr c), if_pos c, if_pos c, show nI o - 121 = nI (o - 121) from pk_sub (b := 121) c]
  · rw [if_neg (show ¬ (121 : Int32) ≤ nI o from fun q => c ((mn_le (a := 121) (by decide) (by omega)).mp q)), if_neg (show ¬ (121 : Int32) ≤ nI o from fun q => c ((mn_le (a := 121) (by decide) (by omega)).mp q)), if_neg c, if_neg c, show nI o - 103 = nI (o - 103) from pk_sub (b := 103) (by omega)]
/-- 0x67 .. 0x69 and 0x79 .. 0x7b -/
theorem ri_103 (hfu : 18000 < fu) (h : rFt D B len T F tc mc G z LL AA tt H x r tn y Qn u v w) (hi : (103 ≤ y.2.1 ∧ y.2.1 ≤ 105) ∨ (121 ≤ y.2.1 ∧ y.2.1 ≤ 123)) (hP : rPs P x r tn) : RZ D B len T F tc mc G z LL AA tt P R (fm_Machine_step fu (u.2.2.1 7 (kF z AA x)) (nI (kF z AA x)) (uF z AA x u)) (mr_st fu w) := by
  obtain ⟨hs, h8, es, er⟩ := rf_num (fu := fu) h (by omega)
  obtain ⟨z1, z2, z3, z4, z5⟩ := rf_0 h
  have hk : ∃ t, (t = if 121 ≤ y.2.1 then 2 else 1) ∧ sn_k y.2.1 = (1, t, t) := by
    unfold sn_k
    rcases hi with t | t
    · exact ⟨1, by rw [if_neg (by omega)], by rw [if_neg (by omega), if_neg (by omega), if_pos (by omega), if_pos (by omega)]⟩
    · exact ⟨2, by rw [if_pos (by omega)], by rw [if_neg (by omega), if_neg (by omega), if_neg (by omega), if_pos (by omega), if_pos (by omega)]⟩
  obtain ⟨t, ht, hk⟩ := hk
  have ht12 : t = 1 ∨ t = 2 := by rcases hi with q | q; rw [if_neg (by omega)] at ht; exact Or.inl ht; rw [if_pos (by omega)] at ht; exact Or.inr ht
  have hs := sq_num1 hs hk
  rw [es, er]
  refine ri_sgX h hP hs (fun w hw => by rw [List.mem_replicate] at hw; omega) fun X hX hRS => ?_
  generalize hW : (fW LL r ++ LL x.1) ++ X = W at *
  have hRS : RS T H (W ++ [t]) (uF z AA x u) w := hRS
  obtain ⟨a, a1, a2, a3, a4, a5⟩ := RS_n hRS ht12
  have h81 : (xs_I w 26 (nI W.length)).1 8 = nI y.2.1 := h8
  have e2 := mn_145 (fu := fu) h8 h81 (by omega) a2
  have key : ∃ n, n ≤ 64 ∧ fm_Machine_doNumeric fu (nI y.2.1) (uF z AA x u) = fm_Values_push__h61 (nI n).toInt64 (xs_I (uF z AA x u) 28 (nI W.length)) ∧ fm_Model_doNumbers fu w = fm_Model_tell (nI n).toInt64 (xs_I w 26 (nI W.length)) := by
    rcases hi with q | q
    · obtain ⟨n, n1, n2, n3⟩ := nc32 (fu := fu) (k := y.2.1 - 103) (by omega) (by omega) a.toInt32
      have ha : a.toInt32.toInt64 = a := a3 (by rw [ht, if_neg (by omega)])
      rw [ha] at n3
      refine ⟨n, by omega, ?_, ?_⟩
      · unfold fm_Machine_doNumeric
        rw [if_neg (fun q => by have := (mn_eq (a := 69) (by decide) (by omega)).mp q; omega), if_neg (fun q => by have := (mn_eq (a := 80) (by decide) (by omega)).mp q; omega), if_pos (show (90 : Int32) < nI y.2.1 from (mn_lt (a := 90) (by decide) (by omega)).mpr (by omega)), if_neg (fun q => by have := (mn_lt (a := 105) (by decide) (by omega)).mp q; omega), a1, ys_seq]
        have n2 := n2 (xs_I (uF z AA x u) 28 (nI W.length))
        rw [show 103 + (y.2.1 - 103) = y.2.1 by omega] at n2
        rw [n2, ys_seq, xs_id]
      · rw [e2, if_neg (by omega), if_neg (by omega)]
        unfold jb_Model_doNumbers_172
        rw [if_neg (fun q => by have := (mn_le (a := 3) (by decide) (by omega)).mp q; omega), n3, ys_seq, mn_202, if_pos rfl, Int32.toInt32_toInt64]
    · obtain ⟨n, n1, n2, n3⟩ := nc64 (fu := fu) (k := y.2.1 - 121) (by omega) (by omega) a
      refine ⟨n, by omega, ?_, ?_⟩
      · unfold fm_Machine_doNumeric
        rw [if_neg (fun q => by have := (mn_eq (a := 69) (by decide) (by omega)).mp q; omega), if_neg (fun q => by have := (mn_eq (a := 80) (by decide) (by omega)).mp q; omega), if_pos (show (90 : Int32) < nI y.2.1 from (mn_lt (a := 90) (by decide) (by omega)).mpr (by omega)), if_pos (show (105 : Int32) < nI y.2.1 from (mn_lt (a := 105) (by decide) (by omega)).mpr (by omega)), if_pos (show (120 : Int32) < nI y.2.1 from (mn_lt (a := 120) (by decide) (by omega)).mpr (by omega)), if_neg (fun q => by have := (mn_lt (a := 123) (by decide) (by omega)).mp q; omega), a1, ys_seq]
        have n2 := n2 (xs_I (uF z AA x u) 28 (nI W.length))
        rw [show 121 + (y.2.1 - 121) = y.2.1 by omega] at n2
        rw [n2, ys_seq, xs_id]
      · rw [e2, if_pos (by omega), if_pos (by omega)]
        unfold jb_Model_doNumbers_172
        rw [if_neg (fun q => by have := (mn_le (a := 3) (by decide) (by omega)).mp q; omega), n3, ys_seq, mn_202, if_neg (by decide)]
  obtain ⟨n, n1, k1, k2⟩ := key
  rw [k1, k2]
  refine RO_i (RO_push a4 a5 z1 z2 ?_ (by omega))
  rcases ht12 with q | q <;> rw [q]
  · exact rv_i
  · exact rv_n2
/-- 0x6a .. 0x78 and 0x7c .. 0x8a -/
theorem ri_106 (h : rFt D B len T F tc mc G z LL AA tt H x r tn y Qn u v w) (hi : (106 ≤ y.2.1 ∧ y.2.1 ≤ 120) ∨ (124 ≤ y.2.1 ∧ y.2.1 ≤ 138)) (hP : rPs P x r tn) : RZ D B len T F tc mc G z LL AA tt P R (fm_Machine_step fu (u.2.2.1 7 (kF z AA x)) (nI (kF z AA x)) (uF z AA x u)) (mr_st fu w) := by
  obtain ⟨hs, h8, es, er⟩ := rf_num (fu := fu) h (by omega)
  obtain ⟨z1, z2, z3, z4, z5⟩ := rf_0 h
  have hk : ∃ t, (t = if 121 ≤ y.2.1 then 2 else 1) ∧ sn_k y.2.1 = (2, t, t) := by
    unfold sn_k
    rcases hi with t | t
    · exact ⟨1, by rw [if_neg (by omega)], by rw [if_neg (by omega), if_neg (by omega), if_pos (by omega), if_neg (by omega)]⟩
    · exact ⟨2, by rw [if_pos (by omega)], by rw [if_neg (by omega), if_neg (by omega), if_neg (by omega), if_pos (by omega), if_neg (by omega)]⟩
  obtain ⟨t, ht, hk⟩ := hk
  have ht12 : t = 1 ∨ t = 2 := by rcases hi with q | q; rw [if_neg (by omega)] at ht; exact Or.inl ht; rw [if_pos (by omega)] at ht; exact Or.inr ht
  have hs := sq_num1 hs hk
  rw [es, er]
  refine ri_sgX h hP hs (fun w hw => by rw [List.mem_replicate] at hw; omega) fun X hX hRS => ?_
  generalize hW : (fW LL r ++ LL x.1) ++ X = W at *
  have hRS : RS T H (W ++ [t, t]) (uF z AA x u) w := hRS
  obtain ⟨a, b, u1, v1, u2, v2, p1, p2, p3, p4, p5, p6, p7, p8, p9, p10⟩ := RS_n2 hRS ht12
  have c8 : v1.1 8 = nI y.2.1 := by rw [p10]; exact h8
  have e2 := mn_145 (fu := fu) h8 c8 (by omega) p2
  have u27 : u2.1 27 = 0 := by rw [p8]; exact z1
  have v29 : v2.1 29 = 0 := by rw [p9]; exact z2
  have fin : RO T H (W ++ [t]) u2 v2 (fm_Machine_doNumeric fu (nI y.2.1) (uF z AA x u)) (fm_Model_doNumbers fu w) := by
    have hset0 : xs_I u2 27 (nI 0) = u2 ∨ True := Or.inr trivial
    rcases hi with q | q
    · -- 32 bits
      have hab : a.toInt32.toInt64 = a ∧ b.toInt32.toInt64 = b := p5 (by rw [ht, if_neg (by omega)])
      obtain ⟨tr, t0, t1, t2, t3⟩ := n32 (k := y.2.1 - 106) (by omega) a.toInt32 b.toInt32
      rw [hab.1, hab.2] at t1 t2 t3
      have e1 : fm_Machine_doNumeric fu (nI y.2.1) (uF z AA x u) = if nI tr = 0 then (xs_seq (fm_Numbers_answer32 (nI (y.2.1 - 106)) a.toInt32 b.toInt32 (xs_I u2 27 (nI tr))) fun a10 u11 => fm_Values_push__h61 a10.toInt64 u11) else some ((), xs_I u2 27 (nI tr)) := by
        unfold fm_Machine_doNumeric
        rw [if_neg (fun q => by have := (mn_eq (a := 69) (by decide) (by omega)).mp q; omega), if_neg (fun q => by have := (mn_eq (a := 80) (by decide) (by omega)).mp q; omega), if_pos (show (90 : Int32) < nI y.2.1 from (mn_lt (a := 90) (by decide) (by omega)).mpr (by omega)), if_pos (show (105 : Int32) < nI y.2.1 from (mn_lt (a := 105) (by decide) (by omega)).mpr (by omega)), if_neg (fun q => by have := (mn_lt (a := 120) (by decide) (by omega)).mp q; omega), xs_id, show nI y.2.1 - 106 = nI (y.2.1 - 106) from pk_sub (b := 106) (by omega)]
        unfold fm_Machine_compute32
        rw [p1, ys_seq, xl_eq, p3, ys_seq, xl_eq, hab.1, hab.2, t1, ys_seq, xl_eq]
        have : (xs_I u2 27 (nI tr)).1 27 = nI tr := rfl
        rw [this]
        have : (fun (a10 : Int32) (u11 : xk_St) => xs_seq (fm_Values_push__h61 a10.toInt64 u11) fun _ u12 => some ((), u12)) = fun a10 u11 => fm_Values_push__h61 a10.toInt64 u11 := by
          funext a10 u11
          rw [xs_id]
        rw [this]
      have e3 : fm_Model_doNumbers fu w = xs_seq (fm_Model_reckoned (nI (y.2.1 - 106 + 3)) a b 32 v2) fun a10 u11 => fm_Model_tell a10.toInt32.toInt64 u11 := by
        rw [e2, if_neg (by omega), if_neg (by omega)]
        unfold jb_Model_doNumbers_172
        rw [if_pos (show (3 : Int32) ≤ nI (y.2.1 - 103) from (mn_le (a := 3) (by decide) (by omega)).mpr (by omega)), p4, ys_seq, show y.2.1 - 103 = y.2.1 - 106 + 3 by omega]
        congr 1
        funext a10 u11
        rw [mn_202, if_pos rfl]
      by_cases tz : tr = 0
      · obtain ⟨RR, r1, r2⟩ := t3 tz
        rw [e1, e3, if_pos (by rw [tz]; rfl), r1, ys_seq, r2, ys_seq]
        have p6' : RS T H W (xs_I u2 27 (nI tr)) v2 := RS_fu p6 (yf_I (I := [27]) (J := []) (A := []) (B := []) yf_refl (by decide)) (by decide)
        have hro := RO_push (c := 1) (x := RR.toInt32.toInt64) p6' p7 (by rw [tz]; rfl) v29 rv_i (by decide)
        obtain ⟨u', v', g1, g2, g3, g4, g5⟩ := hro
        have : t = 1 := by rw [ht, if_neg (by omega)]
        rw [this]
        exact ⟨u', v', g1, g2, yf_trans (yf_I yf_refl (by decide)) g3, g4, g5⟩
      · obtain ⟨RR, r1⟩ := t2 tz
        have hlay := mp_tell (v := xs_I v2 29 (nI tr)) (n := W.length) (x := RR.toInt32.toInt64) p6.2.1 p7
        rw [e1, e3, if_neg (show ¬ nI tr = 0 from fun q => tz ((nI_eq (b := 0) (by omega) (by decide)).mp q)), r1, ys_seq, hlay]
        exact ⟨_, _, rfl, rfl, yf_I yf_refl (by decide), yf_trans (yf_I yf_refl (by decide)) (yf_mono vP_f (by decide)), Or.inr ⟨tr, by omega, by omega, rfl, rfl⟩⟩
    · -- 64 bits
      obtain ⟨tr, t0, t1, t2, t3⟩ := n64 (k := y.2.1 - 124) (by omega) a b
      have e1 : fm_Machine_doNumeric fu (nI y.2.1) (uF z AA x u) = if nI tr = 0 then (xs_seq (fm_Numbers_answer64 (nI (y.2.1 - 124)) a b (xs_I u2 27 (nI tr))) fun a10 u11 => fm_Values_push__h61 a10 u11) else some ((), xs_I u2 27 (nI tr)) := by
        unfold fm_Machine_doNumeric
        rw [if_neg (fun q => by have := (mn_eq (a := 69) (by decide) (by omega)).mp q; omega), if_neg (fun q => by have := (mn_eq (a := 80) (by decide) (by omega)).mp q; omega), if_pos (show (90 : Int32) < nI y.2.1 from (mn_lt (a := 90) (by decide) (by omega)).mpr (by omega)), if_pos (show (105 : Int32) < nI y.2.1 from (mn_lt (a := 105) (by decide) (by omega)).mpr (by omega)), if_pos (show (120 : Int32) < nI y.2.1 from (mn_lt (a := 120) (by decide) (by omega)).mpr (by omega)), if_pos (show (123 : Int32) < nI y.2.1 from (mn_lt (a := 123) (by decide) (by omega)).mpr (by omega)), if_neg (fun q => by have := (mn_lt (a := 138) (by decide) (by omega)).mp q; omega), xs_id, show nI y.2.1 - 124 = nI (y.2.1 - 124) from pk_sub (b := 124) (by omega)]
        unfold fm_Machine_compute64
        rw [p1, ys_seq, p3, ys_seq, t1, ys_seq, xl_eq]
        have : (xs_I u2 27 (nI tr)).1 27 = nI tr := rfl
        rw [this]
        have : (fun (a10 : Int64) (u11 : xk_St) => xs_seq (fm_Values_push__h61 a10 u11) fun _ u12 => some ((), u12)) = fun a10 u11 => fm_Values_push__h61 a10 u11 := by
          funext a10 u11
          rw [xs_id]
        rw [this]
      have e3 : fm_Model_doNumbers fu w = xs_seq (fm_Model_reckoned (nI (y.2.1 - 124 + 3)) a b 64 v2) fun a10 u11 => fm_Model_tell a10 u11 := by
        rw [e2, if_pos (by omega), if_pos (by omega)]
        unfold jb_Model_doNumbers_172
        rw [if_pos (show (3 : Int32) ≤ nI (y.2.1 - 121) from (mn_le (a := 3) (by decide) (by omega)).mpr (by omega)), p4, ys_seq, show y.2.1 - 121 = y.2.1 - 124 + 3 by omega]
        congr 1
        funext a10 u11
        rw [mn_202, if_neg (by decide)]
      by_cases tz : tr = 0
      · obtain ⟨RR, r1, r2⟩ := t3 tz
        rw [e1, e3, if_pos (by rw [tz]; rfl), r1, ys_seq, r2, ys_seq]
        have p6' : RS T H W (xs_I u2 27 (nI tr)) v2 := RS_fu p6 (yf_I (I := [27]) (J := []) (A := []) (B := []) yf_refl (by decide)) (by decide)
        have hro := RO_push (c := 2) (x := RR) p6' p7 (by rw [tz]; rfl) v29 rv_n2 (by decide)
        obtain ⟨u', v', g1, g2, g3, g4, g5⟩ := hro
        have : t = 2 := by rw [ht, if_pos (by omega)]
        rw [this]
        exact ⟨u', v', g1, g2, yf_trans (yf_I yf_refl (by decide)) g3, g4, g5⟩
      · obtain ⟨RR, r1⟩ := t2 tz
        have hlay := mp_tell (v := xs_I v2 29 (nI tr)) (n := W.length) (x := RR) p6.2.1 p7
        rw [e1, e3, if_neg (show ¬ nI tr = 0 from fun q => tz ((nI_eq (b := 0) (by omega) (by decide)).mp q)), r1, ys_seq, hlay]
        exact ⟨_, _, rfl, rfl, yf_I yf_refl (by decide), yf_trans (yf_I yf_refl (by decide)) (yf_mono vP_f (by decide)), Or.inr ⟨tr, by omega, by omega, rfl, rfl⟩⟩
  rw [p8, p9] at fin
  exact RO_ii fin
end
