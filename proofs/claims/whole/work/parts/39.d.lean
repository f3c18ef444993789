section
variable {α β γ δ σ τ : Type} {B : Nat → Int32} {u v w u' v' u0 v0 : xk_St} {T : List (Nat × List Nat × List Nat)} {F : List Nat} {G : List (Nat × Nat × Nat × Int64)} {L W0 : List Nat} {n fu tc mc lim p q len f D k tn tn' j d b g m : Nat} {z : Nat → Nat} {LL : Nat → List Nat} {AA : Nat → sBo} {tt : Nat → Nat} {H H' : rH} {fs r rr : List rFr} {x x' : rFr} {c : Nat × List Nat × List Nat} {y : Nat × sIn} {Q Qn Q1 : List sFr} {P : List rFr → Nat → Prop} {R : List Nat}
/-- 0xfb 0x1c -/
theorem ri_i31n (h : rFt D B len T F tc mc G z LL AA tt H x r tn y Qn u v w) (hi : y.2.1 = 284) (hP : rPs P x r tn) : RZ D B len T F tc mc G z LL AA tt P R (fm_Machine_step fu (u.2.2.1 7 (kF z AA x)) (nI (kF z AA x)) (uF z AA x u)) (mr_st fu w) := by
  obtain ⟨g0, hk, h7, h9, er, hs⟩ := rf_obj (fu := fu) h (by omega)
  obtain ⟨z1, z2, z3, z4, z5⟩ := rf_0 h
  rw [if_neg (by omega), if_neg (by omega), if_neg (by omega)] at hs
  unfold sq_kind at hs
  rw [if_pos (by omega)] at hs
  rw [hi] at h9
  rw [h7, hs_obj (by omega) g0 hk, if_pos (by omega), er, hi]
  refine ri_sg h hP hs (fun w hw => by rw [List.mem_singleton.mp hw]; decide) fun W hX hRS => ?_
  rw [show [1].reverse = [1] from rfl] at hRS
  have hl : (W ++ [1]).length = W.length + 1 := by rw [List.length_append, List.length_singleton]
  have hW18 : W.length < 18000 := by have := hRS.2.2.1; omega
  obtain ⟨c1, c2, c3⟩ := RS_pop hRS
  have u28 : (uF z AA x u).1 28 = nI (W.length + 1) := by rw [hRS.1, hl]
  have w26 : w.1 26 = nI (W.length + 1) := by rw [hRS.2.1, hl]
  obtain ⟨d1, d2, d3⟩ := rv_1 c2
  obtain ⟨n, n1, n2, n3⟩ := i31_m ((uF z AA x u).2.2.2 10 W.length).toInt32 (w.2.2.2 3 W.length) (by rw [d1])
  have e1 : fm_Machine_doKind (nI (284 - 256)) ((uF z AA x u).2.2.1 8 (kF z AA x)) (uF z AA x u) = some ((), uP (xs_I (uF z AA x u) 28 (nI W.length)) W.length (ri n) 1) := by
    unfold fm_Machine_doKind
    simp only [xs_let]
    rw [u28, nI_pred, ix18 hW18, show (nI W.length).toNatClampNeg = W.length from nI_clamp (by omega), if_pos (by decide), n2, hp_pushR rfl hW18, ys_seq]
  have e2 : fm_Model_doObjects fu w = some ((), vP (xs_I w 26 (nI W.length)) W.length (lN (2 * n + 1)) 1) := by
    unfold fm_Model_doObjects
    rw [h9, if_pos (by decide), if_pos (by decide), if_pos (by decide), if_pos (by decide), if_pos (by decide), if_pos (by decide), mp_drop w26 hW18, ys_seq, n3, mp_lay rfl hW18 (Or.inr rfl), ys_seq]
  rw [e1, e2]
  have hr : rv T H 18 (ri n) 1 (lN (2 * n + 1)) := Or.inr (Or.inr ⟨by decide, by decide, Or.inr (Or.inl ⟨rfl, by decide, n, n1, rfl, rfl⟩)⟩)
  have hp := RS_push c1 hW18 hr
  rw [if_pos (by decide)] at hp
  exact ⟨_, _, rfl, rfl, yf_trans (yf_I yf_refl (by decide)) (yf_mono uP_f (by decide)), yf_trans (yf_I yf_refl (by decide)) (yf_mono vP_f (by decide)), Or.inl ⟨z1, z2, hp⟩⟩
/-- 0xfb 0x1d and 0xfb 0x1e -/
theorem ri_i31g (h : rFt D B len T F tc mc G z LL AA tt H x r tn y Qn u v w) (hi : y.2.1 = 285 ∨ y.2.1 = 286) (hP : rPs P x r tn) : RZ D B len T F tc mc G z LL AA tt P R (fm_Machine_step fu (u.2.2.1 7 (kF z AA x)) (nI (kF z AA x)) (uF z AA x u)) (mr_st fu w) := by
  obtain ⟨g0, hk, h7, h9, er, hs⟩ := rf_obj (fu := fu) h (by omega)
  obtain ⟨z1, z2, z3, z4, z5⟩ := rf_0 h
  rw [if_neg (by omega), if_neg (by omega), if_neg (by omega)] at hs
  unfold sq_kind at hs
  rw [if_neg (by omega), if_pos (by omega)] at hs
  have hH := (rf_RD h).1
  rw [h7, hs_obj (by omega) g0 hk, if_pos (by omega), er]
  refine ri_sg h hP hs (fun w hw => by rw [List.mem_singleton.mp hw]; decide) fun W hX hRS => ?_
  rw [show [19].reverse = [19] from rfl] at hRS
  have hl : (W ++ [19]).length = W.length + 1 := by rw [List.length_append, List.length_singleton]
  have hW18 : W.length < 18000 := by have := hRS.2.2.1; omega
  obtain ⟨c1, c2, c3⟩ := RS_pop hRS
  have u28 : (uF z AA x u).1 28 = nI (W.length + 1) := by rw [hRS.1, hl]
  have w26 : w.1 26 = nI (W.length + 1) := by rw [hRS.2.1, hl]
  have hK := rK_0 hH (rv_K c2 (by decide))
  obtain ⟨o, ho⟩ : ∃ o, o = y.2.1 - 256 := ⟨_, rfl⟩
  rw [← ho] at h9 ⊢
  have ho2 : o = 29 ∨ o = 30 := by omega
  have e1 : fm_Machine_doKind (nI o) ((uF z AA x u).2.2.1 8 (kF z AA x)) (uF z AA x u) = if ((uF z AA x u).2.2.2 10 W.length).toInt32 = 0 then jb_Machine_doKind_83 (nI o) ((uF z AA x u).2.2.2 10 W.length).toInt32 (xs_I (xs_I (uF z AA x u) 28 (nI W.length)) 27 8) else jb_Machine_doKind_83 (nI o) ((uF z AA x u).2.2.2 10 W.length).toInt32 (xs_I (uF z AA x u) 28 (nI W.length)) := by
    unfold fm_Machine_doKind
    simp only [xs_let]
    rw [u28, nI_pred, ix18 hW18, show (nI W.length).toNatClampNeg = W.length from nI_clamp (by omega), if_neg (by rcases ho2 with rfl | rfl <;> decide), if_neg (by rcases ho2 with rfl | rfl <;> decide)]
  have e2 : fm_Model_doObjects fu w = if w.2.2.2 3 W.length = 0 then jb_Model_doObjects_128 fu (w.2.2.2 3 W.length) 8 (xs_I w 26 (nI W.length)) else jb_Model_doObjects_128 fu (w.2.2.2 3 W.length) 0 (xs_I w 26 (nI W.length)) := by
    unfold fm_Model_doObjects
    rw [h9, if_pos (by rcases ho2 with rfl | rfl <;> decide), if_pos (by rcases ho2 with rfl | rfl <;> decide), if_pos (by rcases ho2 with rfl | rfl <;> decide), if_pos (by rcases ho2 with rfl | rfl <;> decide), if_pos (by rcases ho2 with rfl | rfl <;> decide), if_neg (by rcases ho2 with rfl | rfl <;> decide), mp_drop w26 hW18, ys_seq]
  have a1 : ∀ (a : Int32) (u1 : xk_St), u1.1 28 = nI W.length → jb_Machine_doKind_83 (nI o) a u1 = some ((), uP u1 W.length (if o = 29 then ((a <<< ((1 : Int32) &&& 31)) >>> ((1 : Int32) &&& 31)).toInt64 else (a &&& (2147483647 : Int32)).toInt64) 0) := fun a u1 h1 => by
    unfold jb_Machine_doKind_83 jb_Machine_doKind_108
    rw [hp_push h1 hW18, ys_seq, hp_push h1 hW18, ys_seq]
    rcases ho2 with rfl | rfl
    · rw [if_pos (by decide), if_pos rfl]
    · rw [if_neg (by decide), if_neg (by decide)]
  have a2 : ∀ (a : Int64) (s : Int32) , jb_Model_doObjects_128 fu a s (xs_I w 26 (nI W.length)) = some ((), vP (xs_I (xs_I w 26 (nI W.length)) 29 s) W.length (if o = 29 then ((a >>> ((1 : Int32).toInt64 &&& 63)) <<< (((64 : Int32) - 31).toInt64 &&& 63)) >>> (((64 : Int32) - 31).toInt64 &&& 63) else a >>> ((1 : Int32).toInt64 &&& 63)) 0) := fun a s => by
    unfold jb_Model_doObjects_128 jb_Model_doObjects_155 fm_Model_sx
    simp only [xs_let]
    have : (xs_I (xs_I w 26 (nI W.length)) 29 s).1 9 = nI o := h9
    rw [this, ys_seq, mp_tell rfl hW18, ys_seq, mp_tell rfl hW18, ys_seq]
    rcases ho2 with rfl | rfl
    · rw [if_pos (by decide), if_pos rfl]
    · rw [if_neg (by decide), if_neg (by decide)]
  rw [e1, e2, a2, a2]
  by_cases c0 : (uF z AA x u).2.2.2 10 W.length = 0
  · rw [if_pos (by rw [c0]; decide), if_pos (hK.mp c0), a1 _ _ rfl]
    exact ⟨_, _, rfl, rfl, yf_trans (yf_I (yf_I yf_refl (by decide)) (by decide)) (yf_mono uP_f (by decide)), yf_trans (yf_I (yf_I yf_refl (by decide)) (by decide)) (yf_mono vP_f (by decide)), Or.inr ⟨8, by decide, by decide, rfl, rfl⟩⟩
  · have c2' := c2
    rcases c2' with ⟨a, -⟩ | ⟨a, -⟩ | ⟨-, h150, hr⟩
    · exact absurd a (by decide)
    · exact absurd a (by decide)
    rcases hr with ⟨r1, r2, -, -⟩ | ⟨r1, -, n, r2, r3, r4⟩ | ⟨r1, k, e, r2, r3, r4, r5⟩
    · exact absurd r1 c0
    · have hne : ¬ ((uF z AA x u).2.2.2 10 W.length).toInt32 = 0 := fun q => by
        have := congrArg Int32.toInt q
        rw [r3, ri_i r2] at this
        have : (n : Int) - 2147483648 = 0 := this
        omega
      rw [if_neg hne, if_neg (fun q => c0 (hK.mpr q)), a1 _ _ rfl]
      have hr : ∃ xx : Int64, (if o = 29 then ((((uF z AA x u).2.2.2 10 W.length).toInt32 <<< ((1 : Int32) &&& 31)) >>> ((1 : Int32) &&& 31)).toInt64 else (((uF z AA x u).2.2.2 10 W.length).toInt32 &&& (2147483647 : Int32)).toInt64) = xx ∧ (if o = 29 then ((w.2.2.2 3 W.length >>> ((1 : Int32).toInt64 &&& 63)) <<< (((64 : Int32) - 31).toInt64 &&& 63)) >>> (((64 : Int32) - 31).toInt64 &&& 63) else w.2.2.2 3 W.length >>> ((1 : Int32).toInt64 &&& 63)) = xx ∧ xx.toInt32.toInt64 = xx := by
        rw [r3, r4, lN_sh1 (by omega)]
        by_cases q : o = 29
        · rw [if_pos q, if_pos q]
          refine ⟨_, rfl, ?_, Int32.toInt32_toInt64 _ ▸ rfl⟩
          have e : ((64 : Int32) - 31) = nI (64 - 31) := by decide
          rw [e]
          exact (i31_s r2 _ (by rw [yz_ext (lN n) (n := 31) (by omega) (by omega), pk_lT (by omega)])).symm
        · rw [if_neg q, if_neg q]
          exact ⟨_, rfl, (i31_u r2).symm, Int32.toInt32_toInt64 _ ▸ rfl⟩
      obtain ⟨xx, x1, x2, x3⟩ := hr
      rw [x1, x2]
      have hp := RS_push (u := xs_I (uF z AA x u) 28 (nI W.length)) (v := xs_I (xs_I w 26 (nI W.length)) 29 0) (RS_fv (I := [29]) (J := []) (A := []) (C := []) c1 (yf_I yf_refl (by decide)) (by decide)) hW18 (rv_n1 x3)
      rw [if_neg (by decide)] at hp
      exact ⟨_, _, rfl, rfl, yf_trans (yf_I yf_refl (by decide)) (yf_mono uP_f (by decide)), yf_trans (yf_I (yf_I yf_refl (by decide)) (by decide)) (yf_mono vP_f (by decide)), Or.inl ⟨z1, rfl, hp⟩⟩
    · omega
/-- kinds -/
theorem ri_kind (h : rFt D B len T F tc mc G z LL AA tt H x r tn y Qn u v w) (hi : 276 ≤ y.2.1) (hP : rPs P x r tn) : RZ D B len T F tc mc G z LL AA tt P R (fm_Machine_step fu (u.2.2.1 7 (kF z AA x)) (nI (kF z AA x)) (uF z AA x u)) (mr_st fu w) := by
  have g0 := (rf_obj (fu := fu) h (by omega)).1
  by_cases c1 : y.2.1 < 284
  · exact ri_test h hi c1 hP
  · by_cases c2 : y.2.1 = 284
    · exact ri_i31n h c2 hP
    · exact ri_i31g h (by omega) hP
end
