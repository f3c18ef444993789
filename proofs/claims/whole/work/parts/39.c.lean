section
variable {α β γ δ σ τ : Type} {B : Nat → Int32} {u v w u' v' u0 v0 : xk_St} {T : List (Nat × List Nat × List Nat)} {F : List Nat} {G : List (Nat × Nat × Nat × Int64)} {L W0 : List Nat} {n fu tc mc lim p q len f D k tn tn' j d b g m : Nat} {z : Nat → Nat} {LL : Nat → List Nat} {AA : Nat → sBo} {tt : Nat → Nat} {H H' : rH} {fs r rr : List rFr} {x x' : rFr} {c : Nat × List Nat × List Nat} {y : Nat × sIn} {Q Qn Q1 : List sFr} {P : List rFr → Nat → Prop} {R : List Nat}
theorem rf_st (h : rFt D B len T F tc mc G z LL AA tt H x r tn y Qn u v w) : rSt D B len T F tc mc G z LL AA tt (uF z AA x u) w := by
  obtain ⟨z1, z2, z3, z4, z5⟩ := rf_0 h
  exact rSt_fv (rSt_fu h.1.1 z4 (by decide)) z5 (by decide)
theorem rf_RD (h : rFt D B len T F tc mc G z LL AA tt H x r tn y Qn u v w) : RD T F tc H G (uF z AA x u) w := by
  obtain ⟨z1, z2, z3, z4, z5⟩ := rf_0 h
  exact RD_fv (RD_fu h.1.2.2.2.2.1 z4 (by decide)) z5 (by decide)
theorem ok_code : ∀ o, o < 287 → 276 ≤ o → ¬ xt_S o = 45 → ¬ xt_S o = 33 → (o < 280 ∧ xt_S o = 116) ∨ 284 ≤ o := by decide +kernel
theorem rv_up {t : Nat} {xh xm : Int64} {fh : Int32} (h : rv T H (16 + 2 * t) xh fh xm) : rv T H (16 + 2 * t + 1) xh fh xm := by
  rcases h with ⟨a, -⟩ | ⟨a, -⟩ | ⟨h16, h150, h⟩
  · omega
  · omega
  · refine Or.inr (Or.inr ⟨by omega, by omega, ?_⟩)
    rcases h with ⟨a, b, c, e⟩ | ⟨a, b, n, e⟩ | ⟨a, k, e, a2, b, e2, q⟩
    · omega
    · exact Or.inr (Or.inl ⟨a, by omega, n, e⟩)
    · refine Or.inr (Or.inr ⟨a, k, e, a2, b, e2, ?_⟩)
      rcases q with q | ⟨q1, q2⟩
      · exact Or.inl (by omega)
      · exact Or.inr ⟨by omega, by rw [q2, show (16 + 2 * t - 20) / 2 = (16 + 2 * t + 1 - 20) / 2 by omega]⟩
theorem od_k : ∀ o, o < 24 → 20 ≤ o → (nI o &&& 1 = 1 ↔ o % 2 = 1) ∧ (nI o - nI o / 2 * 2 = 1 ↔ o % 2 = 1) := by decide +kernel
theorem rf_kind {t o : Nat} (hH : RHp T H u v) (hCe : yCe T u) (hTM : yTM T v) (ht : t < 2 ∨ (2 ≤ t ∧ t - 2 < T.length)) (hr : rv T H d (u.2.2.2 10 n) (u.2.2.1 37 n) (v.2.2.2 3 n)) (hd : 16 ≤ d) (u28 : u.1 28 = nI (n + 1)) (w26 : v.1 26 = nI (n + 1)) (hn : n < 18000) (ho : 20 ≤ o) (ho2 : o < 24) (h9 : v.1 9 = nI o) (j0 : (v.2.1 0).toInt32 = nI t) : ∃ b', fm_Machine_doKind (nI o) (nI (yv_t t)) u = jb_Machine_doKind_139 (nI o) b' u ∧ fm_Model_doKind v = jb_Model_doKind_46 b' v ∧ (b' = 0 ∨ b' = 1) ∧ (b' = 1 → rv T H (16 + 2 * t) (u.2.2.2 10 n) (u.2.2.1 37 n) (v.2.2.2 3 n) ∨ (u.2.2.2 10 n = 0 ∧ v.2.2.2 3 n = 0 ∧ o % 2 = 1)) := by
  obtain ⟨b, hb, i1, i2, i3, i4, i5⟩ := rk_isOf hH hCe hTM ht hr hd
  have hK := rK_0 hH (rv_K hr hd)
  obtain ⟨o1, o2⟩ := od_k o ho2 ho
  have ht64 := hTM.2.1.1
  refine ⟨if u.2.2.2 10 n = 0 then (if o % 2 = 1 then 1 else 0) else b, ?_, ?_, ?_, ?_⟩
  · unfold fm_Machine_doKind
    simp only [xs_let]
    rw [u28, nI_pred, ix18 hn, show (nI n).toNatClampNeg = n from nI_clamp (by omega), if_neg (fun q => by have := (nI_eq (b := 28) (by omega) (by decide)).mp q; omega), if_pos (show nI o ≤ (28 : Int32) from nI_le (b := 28) (by omega) (by omega))]
    by_cases c : u.2.2.2 10 n = 0
    · rw [if_pos (i4.mp c), if_pos c]
      by_cases c2 : o % 2 = 1
      · rw [if_pos (o1.mpr c2), if_pos c2]
      · rw [if_neg (fun q => c2 (o1.mp q)), if_neg c2]
    · rw [if_neg (fun q => c (i4.mpr q)), if_neg c, i1 c, ys_seq]
  · unfold fm_Model_doKind jb_Model_doKind_41 jb_Model_doKind_45
    simp only [xs_let]
    rw [w26, nI_pred, ix19 (by omega), show (nI n).toNatClampNeg = n from nI_clamp (by omega), j0, i3, ys_seq, if_neg (show ¬ (2 : Int32) = 0 by decide), h9]
    by_cases c : u.2.2.2 10 n = 0
    · rw [if_pos c, if_pos (i2 c), if_pos (hK.mp c)]
      by_cases c2 : o % 2 = 1
      · rw [if_pos (o2.mpr c2), if_pos c2]
      · rw [if_neg (fun q => c2 (o2.mp q)), if_neg c2]
    · rw [if_neg c, if_neg (fun q => c (hK.mpr q))]
      rcases hb with rfl | rfl
      · rw [if_pos rfl]
      · rw [if_neg (by decide)]
  · by_cases c : u.2.2.2 10 n = 0
    · rw [if_pos c]
      by_cases c2 : o % 2 = 1
      · rw [if_pos c2]; exact Or.inr rfl
      · rw [if_neg c2]; exact Or.inl rfl
    · rw [if_neg c]; exact hb
  · intro e
    by_cases c : u.2.2.2 10 n = 0
    · rw [if_pos c] at e
      by_cases c2 : o % 2 = 1
      · exact Or.inr ⟨c, hK.mp c, c2⟩
      · rw [if_neg c2] at e; exact absurd e (by decide)
    · rw [if_neg c] at e
      exact Or.inl (i5 e)
/-- tests and casts -/
theorem ri_test (h : rFt D B len T F tc mc G z LL AA tt H x r tn y Qn u v w) (hi : 276 ≤ y.2.1) (hi2 : y.2.1 < 284) (hP : rPs P x r tn) : RZ D B len T F tc mc G z LL AA tt P R (fm_Machine_step fu (u.2.2.1 7 (kF z AA x)) (nI (kF z AA x)) (uF z AA x u)) (mr_st fu w) := by
  obtain ⟨g0, hk, h7, h9, er, hs⟩ := rf_obj (fu := fu) h (by omega)
  obtain ⟨z1, z2, z3, z4, z5⟩ := rf_0 h
  have hg := h.2.1.2.2.2.2.2.2.1
  have hx : xt_S y.2.1 = 116 := by
    rcases ok_code y.2.1 g0 hi hg.2.1 hg.2.2.1 with q | q
    · exact q.2
    · omega
  have hi3 : y.2.1 < 280 := by
    rcases ok_code y.2.1 g0 hi hg.2.1 hg.2.2.1 with q | q
    · exact q.1
    · omega
  obtain ⟨t, t1, t2⟩ := hg.2.2.2.2.2.1 hx
  rw [if_neg (by omega), if_neg (by omega), if_neg (by omega), t2, yx_lN (by omega)] at hs
  have h8 : (uF z AA x u).2.2.1 8 (kF z AA x) = nI (yv_t t) := by
    obtain ⟨ns, e⟩ := h.2.1.2.2.1.2.1
    show u.2.2.1 8 (kF z AA x) = nI (yv_t t)
    rw [e, hx]
    unfold ye_1
    rw [if_neg (by decide), if_neg (by decide), if_pos rfl, t2, yx_lN (by omega)]
  have j0 : (w.2.1 0).toInt32 = nI t := by
    rw [h.2.2.2.1.1, t2]
    exact sb_nLi (by omega)
  have hst := rf_st h
  have hH := (rf_RD h).1
  obtain ⟨o, ho⟩ : ∃ o, o = y.2.1 - 256 := ⟨_, rfl⟩
  rw [← ho] at hs h9
  rw [h7, hs_obj (by omega) g0 hk, if_pos (by omega), ← ho, h8, er]
  unfold sq_kind at hs
  rw [if_neg (by omega), if_neg (by omega)] at hs
  obtain ⟨hin, hs⟩ := xp_if hs
  have ht : t < 2 ∨ (2 ≤ t ∧ t - 2 < T.length) := by
    rcases hin with q | ⟨q, -⟩
    · exact Or.inl (by omega)
    · by_cases c : t < 2
      · exact Or.inl c
      · exact Or.inr ⟨by omega, by rw [show (16 + 2 * t - 20) / 2 = t - 2 by omega] at q; exact q⟩
  generalize hdd : (if o < 22 then 1 else if o = 23 then 16 + 2 * t + 1 else 16 + 2 * t) = dd at hs
  refine ri_sg h hP hs (fun w hw => by rw [List.mem_singleton.mp hw]; decide) fun W hX hRS => ?_
  rw [show [17].reverse = [17] from rfl] at hRS
  have hl : (W ++ [17]).length = W.length + 1 := by rw [List.length_append, List.length_singleton]
  have hW18 : W.length < 18000 := by have := hRS.2.2.1; omega
  obtain ⟨c1, c2, c3⟩ := RS_pop hRS
  have u28 : (uF z AA x u).1 28 = nI (W.length + 1) := by rw [hRS.1, hl]
  have w26 : w.1 26 = nI (W.length + 1) := by rw [hRS.2.1, hl]
  have hC := rf_kind hH hst.1 hst.2.2.1 ht c2 (by decide) u28 w26 hW18 (show 20 ≤ o by omega) (show o < 24 by omega) h9 j0
  obtain ⟨b', e1, e2, hb, hb1⟩ := hC
  have e3 : fm_Model_doObjects fu w = fm_Model_doKind w := by
    unfold fm_Model_doObjects
    rw [h9, if_pos (show (2 : Int32) ≤ nI o from nI_le (a := 2) (by omega) (by omega)), if_pos (show (6 : Int32) ≤ nI o from nI_le (a := 6) (by omega) (by omega)), if_pos (show (9 : Int32) ≤ nI o from nI_le (a := 9) (by omega) (by omega)), if_pos (show (17 : Int32) ≤ nI o from nI_le (a := 17) (by omega) (by omega)), if_neg (fun q => by have := (nI_leI (a := 24) (by omega) (by omega)).mp q; omega), xs_id]
  rw [e1, e3, e2]
  unfold jb_Machine_doKind_139 jb_Model_doKind_46
  simp only [xs_let]
  rw [h9, u28, w26, nI_pred]
  by_cases c22 : o < 22
  · rw [if_neg (fun q => by have := (nI_leI (a := 22) (by omega) (by omega)).mp q; omega), if_pos (show nI o ≤ (21 : Int32) from nI_le (b := 21) (by omega) (by omega)), xs_id]
    rw [if_pos c22] at hdd
    rw [← hdd]
    have e4 : (if b' = 0 then jb_Model_doKind_91 0 (xs_I w 26 (nI W.length)) else jb_Model_doKind_91 1 (xs_I w 26 (nI W.length))) = fm_Model_tell b'.toInt64 (xs_I w 26 (nI W.length)) := by
      unfold jb_Model_doKind_91
      rw [xs_id, xs_id]
      rcases hb with rfl | rfl
      · rw [if_pos rfl]; rfl
      · rw [if_neg (by decide)]; rfl
    rw [e4]
    exact RO_i (RO_truth c1 hW18 z1 z2 hb)
  · rw [if_pos (show (22 : Int32) ≤ nI o from nI_le (a := 22) (by omega) (by omega)), if_neg (show ¬ nI o ≤ (21 : Int32) from fun q => by have := (nI_leI (b := 21) (by omega) (by omega)).mp q; omega)]
    rw [if_neg c22] at hdd
    rcases hb with rfl | rfl
    · rw [if_pos rfl, if_pos rfl]
      exact RO_trap (t := 9) (by decide) (by decide)
    · rw [if_neg (by decide), if_neg (by decide)]
      refine ⟨_, _, rfl, rfl, yf_refl, yf_I yf_refl (by decide), Or.inl ⟨z1, rfl, ?_⟩⟩
      refine RS_fv (v := w) (I := [29]) (J := []) (A := []) (C := []) ?_ (yf_I yf_refl (by decide)) (by decide)
      have hd16 : 16 ≤ dd := by
        by_cases q : o = 23
        · rw [if_pos q] at hdd; omega
        · rw [if_neg q] at hdd; omega
      refine RS_unpop c1 u28 w26 hW18 ?_ (by rw [c3, if_pos (by decide), if_pos hd16])
      by_cases q : o = 23
      · rw [if_pos q] at hdd
        rw [← hdd]
        rcases hb1 rfl with q2 | q2
        · exact rv_up q2
        · obtain ⟨q3, q4, q5⟩ := q2
          rw [q3, q4]
          exact Or.inr (Or.inr ⟨by omega, by omega, Or.inl ⟨rfl, rfl, by omega, rv_f c2⟩⟩)
      · rw [if_neg q] at hdd
        rw [← hdd]
        rcases hb1 rfl with q2 | q2
        · exact q2
        · obtain ⟨q3, q4, q5⟩ := q2
          omega
end
