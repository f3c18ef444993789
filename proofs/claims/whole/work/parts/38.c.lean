section
variable {α β γ δ σ τ : Type} {B : Nat → Int32} {u v w u' v' u0 v0 : xk_St} {T : List (Nat × List Nat × List Nat)} {F : List Nat} {G : List (Nat × Nat × Nat × Int64)} {L W0 : List Nat} {n fu tc mc lim p q len f D k tn tn' j d b g m : Nat} {z : Nat → Nat} {LL : Nat → List Nat} {AA : Nat → sBo} {tt : Nat → Nat} {H H' : rH} {fs r rr : List rFr} {x x' : rFr} {c : Nat × List Nat × List Nat} {y : Nat × sIn} {Q Qn Q1 : List sFr} {P : List rFr → Nat → Prop} {R : List Nat}
theorem o_mem : ∀ o, o < 63 → 40 ≤ o → xt_S o = 45 ∨ xt_S o = 33 ∨ (xt_S o = 119 ∧ xt_W (nI o - 40).toNatClampNeg = nI (sm_w o) ∧ (sm_w o = 1 ∨ sm_w o = 2 ∨ sm_w o = 4 ∨ sm_w o = 8) ∧ ¬ o = 42 ∧ ¬ o = 43) := by decide +kernel
theorem o_even : ∀ o, o < 54 → (nI o &&& 1 = 0 ↔ o % 2 = 0) ∧ (nI o - nI o / 2 * 2 = 0 ↔ o % 2 = 0) := by decide +kernel
theorem mb_0 (f : Nat → Nat) : lN (mbN f 0) = 0 := rfl
theorem n0_0 : nI 0 = 0 := rfl
theorem mb_eq {f g : Nat → Nat} : ∀ n, (∀ i, i < n → f i = g i) → mbN f n = mbN g n := by
  intro n
  induction n with
  | zero => intro _; rfl
  | succ n ih =>
    intro h
    show mbN f n + f n * 2 ^ (8 * n) = mbN g n + g n * 2 ^ (8 * n)
    rw [ih fun i hi => h i (by omega), h n (by omega)]
theorem by_eq0 {a b : Int32} (h : a = b) : Classical.choose (by_255 a) = Classical.choose (by_255 b) := by subst h; rfl
theorem by_eq {A C : Nat → Int32} {i : Nat} (h : A i = C i) : byN A i = byN C i := by_eq0 h
/-- a place of the memory, on both sides -/
theorem rf_place (h : rFt D B len T F tc mc G z LL AA tt H x r tn y Qn u v w) (hi : 40 ≤ y.2.1 ∧ y.2.1 < 63) : ∃ xo, xo < 2 ^ 32 ∧ u.2.2.2 2 (kF z AA x) = lN xo ∧ w.2.1 1 = lN xo ∧ (∀ u, fm_Memory_width (nI y.2.1) u = some (nI (sm_w y.2.1), u)) ∧ (sm_w y.2.1 = 1 ∨ sm_w y.2.1 = 2 ∨ sm_w y.2.1 = 4 ∨ sm_w y.2.1 = 8) ∧ ¬ y.2.1 = 42 ∧ ¬ y.2.1 = 43 := by
  have hg := h.2.1.2.2.2.2.2.2.1
  rcases o_mem y.2.1 hi.2 hi.1 with t | t | ⟨t, t1, t2, t3, t4⟩
  · exact absurd t hg.2.1
  · exact absurd t hg.2.2.1
  · obtain ⟨m, xo, m1, m2, m3, m4⟩ := hg.2.2.2.2.2.2.2 t
    refine ⟨xo, m2, ?_, ?_, fun u => ?_, t2, t3, t4⟩
    · have := h.2.1.2.2.1.2.2.2.2.2.2.2.2 (by omega)
      rw [this]
      unfold ye_2
      rw [t, if_neg (by decide), if_neg (by decide), if_pos (by decide)]
      exact m4
    · rw [h.2.2.2.1.2.1]; exact m4
    · unfold fm_Memory_width
      have e : nI y.2.1 - 40 = nI (y.2.1 - 40) := pk_sub (b := 40) hi.1
      rw [if_neg (by rw [e]; exact nI_in (N := 23) (by omega) (by decide)), t1]
/-- reading by the class -/
theorem he_40 {o wd m xo pg N : Nat} {a : Int64} {u0 u1 : xk_St} (hfu : 18000 < fu) (hi1 : 40 ≤ o) (hi2 : o < 54) (x4 : ∀ u, fm_Memory_width (nI o) u = some (nI wd, u)) (x5 : wd = 1 ∨ wd = 2 ∨ wd = 4 ∨ wd = 8) (x1 : xo < 2 ^ 32) (hm : m < 2 ^ 32) (m6 : pg ≤ 16) (a1 : fm_Values_pop__h61 u0 = some (a, u1)) (ey : a &&& 4294967295 = lN m) (hu33 : u1.1 33 = nI pg) (hN : mbN (fun i => byN (u1.2.2.1 46) (m + xo + i)) wd = N) : fm_Machine_doMemory fu (nI o) (lN xo) u0 = if m + xo + wd ≤ 4096 * pg then fm_Values_push__h61 (if o % 2 = 0 then (lN N <<< (((64 : Int32) - 8 * nI wd).toInt64 &&& 63)) >>> (((64 : Int32) - 8 * nI wd).toInt64 &&& 63) else lN N) u1 else some ((), xs_I u1 27 2) := by
  unfold fm_Machine_doMemory
  rw [if_neg (fun q => by have := (mn_eq (a := 63) (by decide) (by omega)).mp q; omega), if_neg (fun q => by have := (mn_eq (a := 64) (by decide) (by omega)).mp q; omega), if_pos (show nI o < 54 from (mn_lt (o := 54) (by omega) (by decide)).mpr hi2)]
  unfold jb_Machine_doMemory_66
  rw [x4, ys_seq, if_pos rfl]
  unfold jb_Machine_doMemory_90
  rw [a1, ys_seq, xl_eq, ey, lN_add]
  unfold fm_Memory_holds
  rw [hu33, p4096 pg (by omega), nI_toL (by omega), lN_add]
  by_cases q : m + xo + wd ≤ 4096 * pg
  · rw [if_neg (fun t => by have := (pk_lLT (by omega) (by omega)).mp t; omega), ys_seq, if_neg (by decide), if_pos rfl, if_pos q, sb_nLi (by omega)]
    unfold fm_Memory_taken
    have ht := hm_taken (fu := fu) (u := u1) (a := m + xo) (wd := wd) (by omega) (by omega) wd 0 fu (by omega) (by omega)
    rw [hN, mb_0, n0_0] at ht
    rw [ht, ys_seq]
    unfold jb_Machine_doMemory_191 fm_Numbers_signed
    rw [ys_seq, xs_id, xs_id]
    by_cases ev : o % 2 = 0
    · rw [if_pos ((o_even o hi2).1.mpr ev), if_pos ev]
    · rw [if_neg (fun t => ev ((o_even o hi2).1.mp t)), if_neg ev]
  · rw [if_pos ((pk_lLT (by omega) (by omega)).mpr (by omega)), ys_seq, if_pos rfl, if_neg q, xl_eq]
/-- reading by the reference -/
theorem me_40 {o wd m xo pg N : Nat} {a : Int64} {v1 : xk_St} (hfu : 18000 < fu) (hi1 : 40 ≤ o) (hi2 : o < 54) (hwd : sm_w o = wd) (x5 : wd = 1 ∨ wd = 2 ∨ wd = 4 ∨ wd = 8) (x6 : ¬ o = 42) (x7 : ¬ o = 43) (x1 : xo < 2 ^ 32) (hm : m < 2 ^ 32) (m6 : pg ≤ 16) (h8 : w.1 8 = nI o) (hw8 : v1.1 8 = nI o) (hJ : v1.2.1 1 = lN xo) (a2 : fm_Model_drop w = some (a, v1)) (ey : a &&& 4294967295 = lN m) (hw16 : v1.1 16 = nI pg) (eN : m + xo + wd ≤ 65536 → mbN (fun i => byN (v1.2.2.1 27) (m + xo + i)) wd = N) : fm_Model_doMemory fu w = if m + xo + wd ≤ 4096 * pg then fm_Model_tell (if o % 2 = 0 then (lN N <<< (((64 : Int32) - 8 * nI wd).toInt64 &&& 63)) >>> (((64 : Int32) - 8 * nI wd).toInt64 &&& 63) else lN N) v1 else some ((), xs_I v1 29 2) := by
  unfold fm_Model_doMemory
  rw [h8, if_neg (fun q => by have := (mn_eq (a := 63) (by decide) (by omega)).mp q; omega), if_neg (fun q => by have := (mn_eq (a := 64) (by decide) (by omega)).mp q; omega), if_pos (show nI o ≤ 53 from (mn_le (o := 53) (by omega) (by decide)).mpr (by omega))]
  unfold jb_Model_doMemory_114
  have hwo : fm_Model_widthOf (nI o) v1 = some (nI wd, v1) := by rw [← hwd]; exact mm_width hi1 (by omega)
  rw [a2, ys_seq, ey, hJ, lN_add, xl_eq, hw8, hwo, ys_seq, hw16, p4096 pg (by omega), nI_toL (by omega), lN_add]
  by_cases q : m + xo + wd ≤ 4096 * pg
  · rw [if_pos ((pk_lLE (by omega) (by omega)).mpr q), if_pos q, hw8, if_pos (show nI o ≤ 53 from (mn_le (o := 53) (by omega) (by decide)).mpr (by omega)), xl_eq]
    have ht := mm_213 (fu := fu) (v := v1) (a := m + xo) (wd := wd) (b3 := lN (m + xo)) (by omega) (by omega) (sb_nLi (by omega)) wd fu (Nat.le_refl _) (by omega)
    rw [Nat.sub_self, mb_0] at ht
    rw [ht, eN (by omega), hw8]
    unfold jb_Model_doMemory_272 jb_Model_doMemory_276 jb_Model_doMemory_277 jb_Model_doMemory_298 fm_Model_sx
    rw [if_neg (show ¬ (1 : Int32) = 0 by decide), if_pos (show (0 : Int32) = 0 from rfl), ys_seq, xs_id, xs_id]
    by_cases c40 : o = 40
    · rw [if_pos (show nI o = 40 by rw [c40]; rfl), if_pos (by omega)]
    · rw [if_neg (show ¬ nI o = 40 from fun t => c40 ((mn_eq (a := 40) (by decide) (by omega)).mp t))]
      by_cases c43 : o ≤ 43
      · rw [if_pos (show nI o ≤ 43 from (mn_le (o := 43) (by omega) (by decide)).mpr c43), if_neg (by omega)]
      · rw [if_neg (show ¬ nI o ≤ 43 from fun t => c43 ((mn_le (o := 43) (by omega) (by decide)).mp t))]
        by_cases ev : o % 2 = 0
        · rw [if_pos ((o_even o hi2).2.mpr ev), if_pos ev]
        · rw [if_neg (fun t => ev ((o_even o hi2).2.mp t)), if_neg ev]
  · rw [if_neg (fun t => q ((pk_lLE (by omega) (by omega)).mp t)), if_neg q, xl_eq]
/-- what is read has its type -/
theorem cv_40 {o wd N : Nat} (hi1 : 40 ≤ o) (hi2 : o < 54) (x6 : ¬ o = 42) (x7 : ¬ o = 43) (hwd : sm_w o = wd) (hlt : N < 2 ^ (8 * wd)) : rv T H (sm_t o) (if o % 2 = 0 then (lN N <<< (((64 : Int32) - 8 * nI wd).toInt64 &&& 63)) >>> (((64 : Int32) - 8 * nI wd).toInt64 &&& 63) else lN N) 0 (if o % 2 = 0 then (lN N <<< (((64 : Int32) - 8 * nI wd).toInt64 &&& 63)) >>> (((64 : Int32) - 8 * nI wd).toInt64 &&& 63) else lN N) := by
  unfold sm_t
  by_cases c2 : o = 41 ∨ (48 ≤ o ∧ o ≤ 53) ∨ o = 55 ∨ 60 ≤ o
  · rw [if_pos c2]; exact rv_n2
  · rw [if_neg c2]
    refine rv_n1 ?_
    have hwd4 : wd = 4 ∧ o = 40 ∨ ((wd = 1 ∨ wd = 2) ∧ 44 ≤ o) := by
      rw [← hwd]
      unfold sm_w
      have : o = 40 ∨ o = 44 ∨ o = 45 ∨ o = 46 ∨ o = 47 := by omega
      rcases this with t | t | t | t | t <;> rw [t] <;> decide
    rcases hwd4 with ⟨t1, t2⟩ | ⟨t1, t2⟩
    · rw [if_pos (by omega), t1]
      have : (64 : Int32) - 8 * nI 4 = (64 : Int32) - 32 := by decide
      rw [this, sx_32, Int32.toInt32_toInt64]
    · by_cases ev : o % 2 = 0
      · rw [if_pos ev]
        rcases t1 with t1 | t1
        · rw [t1, show (8 : Int32) * nI 1 = nI 8 by decide]
          exact sx_n _ (Or.inl rfl)
        · rw [t1, show (8 : Int32) * nI 2 = nI 16 by decide]
          exact sx_n _ (Or.inr rfl)
      · rw [if_neg ev]
        have h16 : (2 : Nat) ^ (8 * wd) ≤ 2 ^ 16 := Nat.pow_le_pow_right (by decide) (by omega)
        exact fits32 _ (by rw [pk_lT (by omega)]; omega) (by rw [pk_lT (by omega)]; omega)
/-- reading -/
theorem ri_40 (hfu : 18000 < fu) (h : rFt D B len T F tc mc G z LL AA tt H x r tn y Qn u v w) (hi : 40 ≤ y.2.1 ∧ y.2.1 < 54) (hP : rPs P x r tn) : RZ D B len T F tc mc G z LL AA tt P R (fm_Machine_step fu (u.2.2.1 7 (kF z AA x)) (nI (kF z AA x)) (uF z AA x u)) (mr_st fu w) := by
  obtain ⟨hs, h8, es, er⟩ := rf_mem (fu := fu) h (by omega)
  obtain ⟨z1, z2, z3, z4, z5⟩ := rf_0 h
  obtain ⟨xo, x1, x2, x3, x4, x5, x6, x7⟩ := rf_place h ⟨hi.1, by omega⟩
  obtain ⟨-, hs⟩ := xp_if hs
  rw [if_pos (by omega)] at hs
  obtain ⟨-, hs⟩ := xp_if hs
  rw [if_pos hi.2] at hs
  rw [es, er, x2]
  obtain ⟨hMb, pg, mx, m1, m2, m3, m4, m5, m6, m7⟩ := h.1.2.2.2.2.1.2.2.1
  refine ri_sgX h hP hs (fun w hw => by rw [List.mem_singleton.mp hw]; decide) fun X hX hRS => ?_
  generalize hW : (fW LL r ++ LL x.1) ++ X = W at *
  have hRS : RS T H (W ++ [1]) (uF z AA x u) w := hRS
  obtain ⟨a, a1, a2, a3, a4, a5⟩ := RS_n hRS (Or.inl rfl)
  obtain ⟨m, hm, ey⟩ := lN_maskE a
  generalize hwd : sm_w y.2.1 = wd at *
  have hu33 : (xs_I (uF z AA x u) 28 (nI W.length)).1 33 = nI pg := m1
  have hw16 : (xs_I w 26 (nI W.length)).1 16 = nI pg := by
    show w.1 16 = nI pg
    rw [h.2.2.1.1 16 (by decide)]; exact m2
  have hw8 : (xs_I w 26 (nI W.length)).1 8 = nI y.2.1 := h8
  have hM : ∀ i, i < 65536 → (xs_I (uF z AA x u) 28 (nI W.length)).2.2.1 46 i = (xs_I w 26 (nI W.length)).2.2.1 27 i := fun i hi => by
    show u.2.2.1 46 i = w.2.2.1 27 i
    rw [h.2.2.1.2.2.1 27 (by decide)]; exact hMb i hi
  have eN : m + xo + wd ≤ 65536 → mbN (fun i => byN ((xs_I (uF z AA x u) 28 (nI W.length)).2.2.1 46) (m + xo + i)) wd = mbN (fun i => byN ((xs_I w 26 (nI W.length)).2.2.1 27) (m + xo + i)) wd := fun hle => by
    exact mb_eq wd fun i hi => by_eq (hM (m + xo + i) (by omega))
  generalize hN : mbN (fun i => byN ((xs_I (uF z AA x u) 28 (nI W.length)).2.2.1 46) (m + xo + i)) wd = N at *
  have e1 := he_40 (fu := fu) hfu hi.1 hi.2 x4 x5 x1 hm (by omega) a1 ey hu33 hN
  have e2 := me_40 (fu := fu) hfu hi.1 hi.2 hwd x5 x6 x7 x1 hm (by omega) h8 hw8 x3 a2 ey hw16 (fun t => (eN t).symm)
  rw [e1, e2]
  by_cases q : m + xo + wd ≤ 4096 * pg
  · rw [if_pos q, if_pos q]
    refine RO_i (RO_push a4 a5 z1 z2 ?_ (by unfold sm_t; split <;> decide))
    have hlt := mb_lt (f := fun i => byN ((xs_I (uF z AA x u) 28 (nI W.length)).2.2.1 46) (m + xo + i)) wd (fun i _ => (by_s _ _).1)
    rw [hN] at hlt
    exact cv_40 hi.1 hi.2 x6 x7 hwd hlt
  · rw [if_neg q, if_neg q]
    exact RO_i (RO_trap (t := 2) (by decide) (by decide))
/-- writing -/
theorem ri_54 (hfu : 18000 < fu) (h : rFt D B len T F tc mc G z LL AA tt H x r tn y Qn u v w) (hi : 54 ≤ y.2.1 ∧ y.2.1 < 63) (hP : rPs P x r tn) : RZ D B len T F tc mc G z LL AA tt P R (fm_Machine_step fu (u.2.2.1 7 (kF z AA x)) (nI (kF z AA x)) (uF z AA x u)) (mr_st fu w) := by
  obtain ⟨hs, h8, es, er⟩ := rf_mem (fu := fu) h (by omega)
  obtain ⟨z1, z2, z3, z4, z5⟩ := rf_0 h
  obtain ⟨xo, x1, x2, x3, x4, x5, x6, x7⟩ := rf_place h ⟨by omega, by omega⟩
  obtain ⟨-, hs⟩ := xp_if hs
  rw [if_pos (by omega)] at hs
  obtain ⟨-, hs⟩ := xp_if hs
  rw [if_neg (by omega)] at hs
  rw [es, er, x2]
  have ht12 : sm_t y.2.1 = 1 ∨ sm_t y.2.1 = 2 := by unfold sm_t; split; exact Or.inr rfl; exact Or.inl rfl
  refine ri_sgP h hP hs (fun w hw => by simp at hw; omega) fun X hX hRS hRD => ?_
  generalize hW : (fW LL r ++ LL x.1) ++ X = W at *
  have hRS : RS T H ((W ++ [1]) ++ [sm_t y.2.1]) (uF z AA x u) w := by
    rw [List.append_assoc]; exact hRS
  obtain ⟨xv, b1, b2, b3, b4, b5⟩ := RS_n hRS ht12
  obtain ⟨a, a1, a2, a3, a4, a5⟩ := RS_n b4 (Or.inl rfl)
  obtain ⟨m, hm, ey⟩ := lN_maskE a
  obtain ⟨hMb, pg, mx, m1, m2, m3, m4, m5, m6, m7⟩ := h.1.2.2.2.2.1.2.2.1
  generalize hwd : sm_w y.2.1 = wd at *
  generalize hu2 : xs_I (xs_I (uF z AA x u) 28 (nI (W ++ [1]).length)) 28 (nI W.length) = u2 at *
  generalize hv2 : xs_I (xs_I w 26 (nI (W ++ [1]).length)) 26 (nI W.length) = v2 at *
  have fu2 : yf_fr [28] [] [] [] (uF z AA x u) u2 := by rw [← hu2]; exact yf_I (yf_I yf_refl (by decide)) (by decide)
  have fv2 : yf_fr [26] [] [] [] w v2 := by rw [← hv2]; exact yf_I (yf_I yf_refl (by decide)) (by decide)
  have hu33 : u2.1 33 = nI pg := by rw [fu2.1 33 (by decide)]; exact m1
  have hw16 : v2.1 16 = nI pg := by rw [fv2.1 16 (by decide), h.2.2.1.1 16 (by decide)]; exact m2
  have hw8 : v2.1 8 = nI y.2.1 := by rw [fv2.1 8 (by decide)]; exact h8
  have hM : ∀ i, i < 65536 → u2.2.2.1 46 i = v2.2.2.1 27 i := fun i hi => by
    rw [fu2.2.2.1 46 (by decide), fv2.2.2.1 27 (by decide), h.2.2.1.2.2.1 27 (by decide)]; exact hMb i hi
  have e1 : fm_Machine_doMemory fu (nI y.2.1) (lN xo) (uF z AA x u) = if m + xo + wd ≤ 4096 * pg then fm_Memory_put fu (nI (m + xo)) (nI wd) xv u2 else some ((), xs_I u2 27 2) := by
    unfold fm_Machine_doMemory
    rw [if_neg (fun q => by have := (mn_eq (a := 63) (by decide) (by omega)).mp q; omega), if_neg (fun q => by have := (mn_eq (a := 64) (by decide) (by omega)).mp q; omega), if_neg (show ¬ nI y.2.1 < 54 from fun t => by have := (mn_lt (o := 54) (by omega) (by decide)).mp t; omega)]
    unfold jb_Machine_doMemory_66
    rw [x4, ys_seq, if_neg (by decide), b1, ys_seq]
    unfold jb_Machine_doMemory_90
    rw [a1, ys_seq, xl_eq, ey, lN_add]
    unfold fm_Memory_holds
    rw [hu33, p4096 pg (by omega), nI_toL (by omega), lN_add]
    by_cases q : m + xo + wd ≤ 4096 * pg
    · rw [if_neg (fun t => by have := (pk_lLT (by omega) (by omega)).mp t; omega), ys_seq, if_neg (by decide), if_neg (by decide), if_pos q, sb_nLi (by omega), xs_id]
    · rw [if_pos ((pk_lLT (by omega) (by omega)).mpr (by omega)), ys_seq, if_pos rfl, if_neg q, xl_eq]
  have e2 : fm_Model_doMemory fu w = if m + xo + wd ≤ 4096 * pg then jb_Model_doMemory_174 fu fu xv (lN (m + xo)) (nI wd) 0 v2 else some ((), xs_I v2 29 2) := by
    unfold fm_Model_doMemory
    rw [h8, if_neg (fun q => by have := (mn_eq (a := 63) (by decide) (by omega)).mp q; omega), if_neg (fun q => by have := (mn_eq (a := 64) (by decide) (by omega)).mp q; omega), if_neg (show ¬ nI y.2.1 ≤ 53 from fun t => by have := (mn_le (o := 53) (by omega) (by decide)).mp t; omega), b2, ys_seq]
    unfold jb_Model_doMemory_114
    have hJ : v2.2.1 1 = lN xo := by rw [fv2.2.1 1 (by decide)]; exact x3
    have hwo : fm_Model_widthOf (nI y.2.1) v2 = some (nI wd, v2) := by rw [← hwd]; exact mm_width (by omega) (by omega)
    rw [a2, ys_seq, ey, hJ, lN_add, xl_eq, hw8, hwo, ys_seq, hw16, p4096 pg (by omega), nI_toL (by omega), lN_add]
    by_cases q : m + xo + wd ≤ 4096 * pg
    · rw [if_pos ((pk_lLE (by omega) (by omega)).mpr q), if_pos q, hw8, if_neg (show ¬ nI y.2.1 ≤ 53 from fun t => by have := (mn_le (o := 53) (by omega) (by decide)).mp t; omega)]
    · rw [if_neg (fun t => q ((pk_lLE (by omega) (by omega)).mp t)), if_neg q, xl_eq]
  have u27 : u2.1 27 = 0 := by rw [fu2.1 27 (by decide)]; exact z1
  have v29 : v2.1 29 = 0 := by rw [fv2.1 29 (by decide)]; exact z2
  have hRD2 : RD T F tc H G u2 v2 := RD_fv (RD_fu hRD fu2 (by decide)) fv2 (by decide)
  rw [e1, e2, List.append_nil]
  by_cases q : m + xo + wd ≤ 4096 * pg
  · rw [if_pos q, if_pos q]
    obtain ⟨u', v', k1, k2, k3, k4, k5, k6⟩ := rm_put (fu := fu) (a := m + xo) (wd := wd) (b3 := lN (m + xo)) (xx := xv) (by omega) (by omega) (sb_nLi (by omega)) wd 0 fu fu u2 v2 (by omega) (by omega) (by omega) hM
    have k1 : fm_Memory_put fu (nI (m + xo)) (nI wd) xv u2 = some ((), u') := k1
    have k2 : jb_Model_doMemory_174 fu fu xv (lN (m + xo)) (nI wd) 0 v2 = some ((), v') := k2
    rw [k1, k2]
    refine ⟨u', v', rfl, rfl, yf_trans (yf_mono fu2 (by decide)) (yf_mono k3 (by decide)), yf_trans (yf_mono fv2 (by decide)) (yf_mono k4 (by decide)), Or.inl ⟨by rw [k3.1 27 (by decide)]; exact u27, by rw [k4.1 29 (by decide)]; exact v29, H, RS_fv (RS_fu a4 k3 (by decide)) k4 (by decide), ?_⟩⟩
    obtain ⟨d1, d2, d3, d4⟩ := hRD2
    refine ⟨RHp_fv (RHp_fu d1 k3 (by decide)) k4 (by decide), ?_, ⟨k5, pg, mx, ?_, ?_, ?_, ?_, m5, m6, fun i h1 h2 => by rw [k6 i (Or.inr (by omega)), fu2.2.2.1 46 (by decide)]; exact m7 i h1 h2⟩, ?_⟩
    · unfold RG
      rw [k3.1 29 (by decide), k3.2.2.1 38 (by decide), k3.2.2.2 11 (by decide), k4.2.2.2 2 (by decide)]
      exact d2
    · rw [k3.1 33 (by decide)]; exact hu33
    · rw [k4.1 16 (by decide)]; exact hw16
    · rw [k3.1 34 (by decide), fu2.1 34 (by decide)]; exact m3
    · rw [k4.1 17 (by decide), fv2.1 17 (by decide), h.2.2.1.1 17 (by decide)]; exact m4
    · unfold RT
      rw [k3.2.2.1 47 (by decide), k4.2.2.1 28 (by decide), k4.1 24 (by decide), k3.2.2.1 16 (by decide)]
      exact d4
  · rw [if_neg q, if_neg q]
    refine ⟨_, _, rfl, rfl, yf_I (yf_mono fu2 (by decide)) (by decide), yf_I (yf_mono fv2 (by decide)) (by decide), Or.inr ⟨2, H, by decide, by decide, rfl, rfl, ?_⟩⟩
    exact RD_fv (RD_fu hRD2 (yf_I (I := [27]) (J := []) (A := []) (B := []) yf_refl (by decide)) (by decide)) (yf_I (I := [29]) (J := []) (A := []) (B := []) yf_refl (by decide)) (by decide)
end
