section
variable {α β γ δ σ τ : Type} {B : Nat → Int32} {u v w u' v' u0 v0 : xk_St} {T : List (Nat × List Nat × List Nat)} {F : List Nat} {G : List (Nat × Nat × Nat × Int64)} {L W0 : List Nat} {n fu tc mc lim p q len f D k tn tn' j d b g m i : Nat} {z : Nat → Nat} {LL : Nat → List Nat} {AA : Nat → sBo} {tt : Nat → Nat} {H H' : rH} {fs r rr : List rFr} {x x' : rFr} {c : Nat × List Nat × List Nat} {e : Nat × Nat × Nat × Nat} {y : Nat × sIn} {Q Qn Q1 : List sFr} {P : List rFr → Nat → Prop} {R : List Nat}
def ob_B (o : Nat) : Bool := (xt_S o == 45) || (xt_S o == 33) || ((xt_S o == 117) && [256, 257, 262, 263, 267, 268, 269, 270, 272].contains o) || ((xt_S o == 119) && [258, 259, 260, 261, 264].contains o) || (o == 271)
theorem ob_all : ∀ j, j < 20 → ob_B (256 + j) = true := by decide +kernel
theorem ob_code {o : Nat} (h2 : o < 276) (h1 : 256 ≤ o) (n1 : ¬ xt_S o = 45) (n2 : ¬ xt_S o = 33) : (xt_S o = 117 ∧ o ∈ [256, 257, 262, 263, 267, 268, 269, 270, 272]) ∨ (xt_S o = 119 ∧ o ∈ [258, 259, 260, 261, 264]) ∨ o = 271 := by
  have h := ob_all (o - 256) (by omega)
  rw [show 256 + (o - 256) = o by omega] at h
  unfold ob_B at h
  rw [Bool.or_eq_true, Bool.or_eq_true, Bool.or_eq_true, Bool.or_eq_true, Bool.and_eq_true, Bool.and_eq_true, beq_iff_eq, beq_iff_eq, beq_iff_eq, beq_iff_eq, beq_iff_eq, List.contains_iff_mem, List.contains_iff_mem] at h
  rcases h with (((h | h) | h) | h) | h
  · exact absurd h n1
  · exact absurd h n2
  · exact Or.inl h
  · exact Or.inr (Or.inl h)
  · exact Or.inr (Or.inr h)
theorem rf_code (h : rFt D B len T F tc mc G z LL AA tt H x r tn y Qn u v w) (hi : 256 ≤ y.2.1) (hi2 : y.2.1 < 276) : (xt_S y.2.1 = 117 ∧ (y.2.1 = 256 ∨ y.2.1 = 257 ∨ y.2.1 = 262 ∨ y.2.1 = 263 ∨ y.2.1 = 267 ∨ y.2.1 = 268 ∨ y.2.1 = 269 ∨ y.2.1 = 270 ∨ y.2.1 = 272)) ∨ (xt_S y.2.1 = 119 ∧ (y.2.1 = 258 ∨ y.2.1 = 259 ∨ y.2.1 = 260 ∨ y.2.1 = 261 ∨ y.2.1 = 264)) ∨ y.2.1 = 271 :=
  by
  rcases ob_code hi2 hi h.2.1.2.2.2.2.2.2.1.2.1 h.2.1.2.2.2.2.2.2.1.2.2.1 with ⟨a, q⟩ | ⟨a, q⟩ | q
  · exact Or.inl ⟨a, by simpa using q⟩
  · exact Or.inr (Or.inl ⟨a, by simpa using q⟩)
  · exact Or.inr (Or.inr q)
/-- an instruction with a type -/
theorem rf_117 (h : rFt D B len T F tc mc G z LL AA tt H x r tn y Qn u v w) (hx : xt_S y.2.1 = 117) (hm : T[yx_n y.2.2.1]? = some c) : ∃ m, m < 64 ∧ yx_n y.2.2.1 = m ∧ (uF z AA x u).2.2.1 8 (kF z AA x) = nI m ∧ (w.2.1 0).toInt32 = nI m := by
  obtain ⟨m, m1, m2, m3⟩ := h.2.1.2.2.2.2.2.2.1.2.2.2.2.2.2.1 hx
  have hT64 : T.length ≤ 64 := h.1.1.2.2.1.2.1.1
  rw [m2, yx_lN (by omega)] at hm
  have hml := yl_lt hm
  refine ⟨m, by omega, by rw [m2, yx_lN (by omega)], ?_, ?_⟩
  · obtain ⟨ns, e⟩ := h.2.1.2.2.1.2.1
    show u.2.2.1 8 (kF z AA x) = nI m
    rw [e, hx]
    unfold ye_1
    rw [if_neg (by decide), if_neg (by decide), if_neg (by decide), if_pos (Or.inl rfl), m2, yx_lN (by omega), yn_cs (by omega)]
  · rw [h.2.2.2.1.1, m2]
    exact sb_nLi (by omega)
theorem rf_119 (h : rFt D B len T F tc mc G z LL AA tt H x r tn y Qn u v w) (hx : xt_S y.2.1 = 119) (hi : 256 ≤ y.2.1) (hm : T[yx_n y.2.2.1]? = some c) : ∃ m n, m < 64 ∧ yx_n y.2.2.1 = m ∧ (uF z AA x u).2.2.1 8 (kF z AA x) = nI m ∧ (w.2.1 0).toInt32 = nI m ∧ n < 2 ^ 32 ∧ sb_n y.2.2.2.1 = n ∧ (uF z AA x u).2.2.2 2 (kF z AA x) = lN n ∧ w.2.1 1 = lN n := by
  obtain ⟨m, n, m1, n1, m2, m3⟩ := h.2.1.2.2.2.2.2.2.1.2.2.2.2.2.2.2 hx
  have hT64 : T.length ≤ 64 := h.1.1.2.2.1.2.1.1
  rw [m2, yx_lN (by omega)] at hm
  have hml := yl_lt hm
  refine ⟨m, n, by omega, by rw [m2, yx_lN (by omega)], ?_, ?_, n1, by rw [m3, sb_nL n1], ?_, ?_⟩
  · obtain ⟨ns, e⟩ := h.2.1.2.2.1.2.1
    show u.2.2.1 8 (kF z AA x) = nI m
    rw [e, hx]
    unfold ye_1
    rw [if_neg (by decide), if_neg (by decide), if_neg (by decide), if_pos (Or.inr rfl), m2, yx_lN (by omega), yn_cs (by omega)]
  · rw [h.2.2.2.1.1, m2]
    exact sb_nLi (by omega)
  · have := h.2.1.2.2.1.2.2.2.2.2.2.2.2 (by omega)
    show u.2.2.2 2 (kF z AA x) = lN n
    rw [this, hx]
    unfold ye_2
    rw [if_neg (by decide), if_neg (by decide), if_pos rfl, m3]
  · rw [h.2.2.2.1.2.1, m3]
theorem RP_of {W' : List Nat} {ou ov : Option (Unit × xk_St)} (h : RO T H W' u v ou ov) (hD : RD T F tc H G u v) : RP T F tc G W' u v ou ov := by
  obtain ⟨u', v', o1, o2, o3, o4, o5⟩ := h
  have hD' : RD T F tc H G u' v' := RD_fv (RD_fu hD o3 (by decide)) o4 (by decide)
  refine ⟨u', v', o1, o2, yf_mono o3 (by decide), yf_mono o4 (by decide), ?_⟩
  rcases o5 with ⟨a1, a2, a3⟩ | ⟨t, t0, t1, t2, t3⟩
  · exact Or.inl ⟨a1, a2, H, a3, hD'⟩
  · exact Or.inr ⟨t, H, t0, t1, t2, t3, hD'⟩
/-- 0xfb 2 .. 4 -/
theorem ri_sget (h : rFt D B len T F tc mc G z LL AA tt H x r tn y Qn u v w) (hi : y.2.1 = 258 ∨ y.2.1 = 259 ∨ y.2.1 = 260) (hP : rPs P x r tn) : RZ D B len T F tc mc G z LL AA tt P R (fm_Machine_step fu (u.2.2.1 7 (kF z AA x)) (nI (kF z AA x)) (uF z AA x u)) (mr_st fu w) := by
  obtain ⟨g0, hk, h7, h9, er, hs⟩ := rf_obj (fu := fu) h (by omega)
  obtain ⟨z1, z2, z3, z4, z5⟩ := rf_0 h
  have hx : xt_S y.2.1 = 119 := by
    rcases rf_code h (by omega) (by omega) with ⟨a, q⟩ | ⟨a, q⟩ | q
    · omega
    · exact a
    · omega
  rw [if_pos (by omega)] at hs
  obtain ⟨c, hc, hs⟩ := Option.bind_eq_some_iff.mp hs
  obtain ⟨h95, hs⟩ := xp_if hs
  obtain ⟨m, f, m1, m2, m3, m4, n1, n2, n3, n4⟩ := rf_119 h hx (by omega) hc
  rw [m2] at hc hs
  rw [n2] at hs
  obtain ⟨o, ho⟩ : ∃ o, o = y.2.1 - 256 := ⟨_, rfl⟩
  rw [← ho] at hs h9
  have ho' : o = 2 ∨ o = 3 ∨ o = 4 := by omega
  rw [h7, hs_obj (by omega) g0 hk, if_neg (by omega), if_neg (by omega), ← ho, m3, n3, er]
  unfold sq_strc at hs
  rw [if_neg (by omega), if_neg (by omega)] at hs
  obtain ⟨d, hd, hs⟩ := Option.bind_eq_some_iff.mp hs
  rw [if_neg (by omega)] at hs
  obtain ⟨hpk, hs⟩ := xp_if hs
  have hst := rf_st h
  have hH := (rf_RD h).1
  obtain ⟨hz, -⟩ := RHp_iff.mp hH
  have hd150 := (yCe_mv hst.1 hc hd).2.2.1
  obtain ⟨p7, f16, -⟩ := yTM_p hst.2.2.1 hc hd
  have hm20 : 21 + 2 * m < 150 := by omega
  refine ri_sg h hP hs (fun w hw => by rw [List.mem_singleton.mp hw]; exact hm20) fun W hX hRS => ?_
  rw [show [21 + 2 * m].reverse = [21 + 2 * m] from rfl] at hRS
  have hl : (W ++ [21 + 2 * m]).length = W.length + 1 := by rw [List.length_append, List.length_singleton]
  have hW18 : W.length < 18000 := by have := hRS.2.2.1; omega
  obtain ⟨c1, c2, c3⟩ := RS_pop hRS
  have u28 : (uF z AA x u).1 28 = nI (W.length + 1) := by rw [hRS.1, hl]
  have w26 : w.1 26 = nI (W.length + 1) := by rw [hRS.2.1, hl]
  have hK := rK_0 hH (rv_K c2 (by omega))
  have hf32 : (lN f).toInt32 = nI f := sb_nLi (by omega)
  have e1 : fm_Machine_doStructure fu (nI o) (nI m) (lN f).toInt32 (uF z AA x u) = jb_Machine_doStructure_55 fu (nI o) (nI m) (nI f) (nI W.length) (uF z AA x u) := by
    unfold fm_Machine_doStructure
    rw [if_pos (show (1 : Int32) < nI o from (nI_ltI (a := 1) (by omega) (by omega)).mpr (by omega)), if_neg (fun q => by have := (nI_eq (b := 5) (by omega) (by decide)).mp q; omega), u28, nI_pred, hf32]
  have e2 : fm_Model_doObjects fu w = jb_Model_doField_36 (nI d) 0 w := by
    unfold fm_Model_doObjects
    rw [h9, if_pos (show (2 : Int32) ≤ nI o from nI_le (a := 2) (by omega) (by omega)), if_neg (fun q => by have := (nI_leI (a := 6) (by omega) (by omega)).mp q; omega), xs_id]
    unfold fm_Model_doField
    simp only [xs_let]
    rw [m4, n4, hf32, nI_32, if_neg (nI_in (N := 2048) (by omega) (by decide)), show (nI (32 * m + f)).toNatClampNeg = 32 * m + f from nI_clamp (by omega), p7, h9, if_neg (fun q => by have := (nI_eq (b := 5) (by omega) (by decide)).mp q; omega)]
  rw [e1, e2]
  unfold jb_Machine_doStructure_55 jb_Model_doField_36
  simp only [xs_let]
  rw [ix18 hW18, show (nI W.length).toNatClampNeg = W.length from nI_clamp (by omega), mp_drop w26 hW18, ys_seq]
  by_cases c0 : (uF z AA x u).2.2.2 10 W.length = 0
  · rw [if_pos (by rw [c0]; decide), if_pos (hK.mp c0)]
    exact ⟨_, _, rfl, rfl, yf_I yf_refl (by decide), yf_I (yf_I yf_refl (by decide)) (by decide), Or.inr ⟨8, by decide, by decide, rfl, rfl⟩⟩
  · obtain ⟨k, e, he, r1, r2, r3⟩ := rv_obj c2 c0
    obtain ⟨i1, i2, i3, i4⟩ := rh_obj hz he
    obtain ⟨⟨b1, b2, b3⟩, ⟨o1, o2, o3, o4, o5⟩, ⟨q1, q2, q3, q4⟩, -⟩ := hz.2.1 k e he
    obtain ⟨t1, -⟩ := rh_part hst.2.2.1 hz he r3 hc
    have hsz : e.2.2.2 = c.2.1.length := by
      rcases t1 with q | q
      · omega
      · exact q.2
    have hfl := yl_lt hd
    have htop := hS_top he
    have h2000 := hz.1.2.2.1
    have hdp : pT c f = some d := by unfold pT; rw [if_neg (by omega)]; exact hd
    have hrv := rh_get hst.2.2.1 hH he r3 hc (by omega) hdp
    have hcc : hS (H.take k) + 1 + f < 2000 := by omega
    rw [r1, r2, i1, if_neg (show ¬ nI e.1 = 0 from fun q => i2 (i1.trans q)), if_neg i3, hp_cell hz he, ys_seq, yCe_m hst.1 hc hd, ys_seq, if_neg (show ¬ nI o = (5 : Int32) from fun q => by have := (nI_eq (b := 5) (by omega) (by decide)).mp q; omega), if_neg (show ¬ (2 : Int64) = 0 by decide), i4, ix2001 (by omega), show (nI e.2.1).toNatClampNeg = e.2.1 from nI_clamp (by omega)]
    have w37 : (xs_I w 26 (nI W.length)).2.2.1 37 e.2.1 = nI (hS (H.take k) + 1) := q1
    have w1 : (xs_I w 26 (nI W.length)).2.1 1 = lN f := n4
    have w9 : (xs_I w 26 (nI W.length)).1 9 = nI o := h9
    rw [w37, w1, w9, hf32, nI_add, if_neg (show ¬ nI o = (5 : Int32) from fun q => by have := (nI_eq (b := 5) (by omega) (by decide)).mp q; omega), ix2001 (by omega), show (nI (hS (H.take k) + 1 + f)).toNatClampNeg = hS (H.take k) + 1 + f from nI_clamp (by omega)]
    unfold jb_Machine_doStructure_122 jb_Machine_doStructure_151 jb_Model_doField_124
    simp only [xs_let]
    rw [if_neg (show ¬ nI o = (5 : Int32) from fun q => by have := (nI_eq (b := 5) (by omega) (by decide)).mp q; omega), xs_id, xs_id, xs_id, xs_id]
    refine RO_i (m := W.length) ?_
    by_cases q3 : o = 3
    · rw [if_pos (show nI o = 3 by rw [q3]; rfl), if_pos (show nI o = 3 by rw [q3]; rfl)]
      exact RO_part c1 hW18 hd150 z1 z2 hcc (Or.inr ⟨rfl, hpk.mpr (by omega)⟩) hrv
    · rw [if_neg (show ¬ nI o = (3 : Int32) from fun q => q3 ((nI_eq (b := 3) (by omega) (by decide)).mp q)), if_neg (show ¬ nI o = (3 : Int32) from fun q => q3 ((nI_eq (b := 3) (by omega) (by decide)).mp q))]
      exact RO_part c1 hW18 hd150 z1 z2 hcc (Or.inl rfl) hrv
end
