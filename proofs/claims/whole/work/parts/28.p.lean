section
variable {α β γ δ σ τ : Type} {u v w u0 u1 : xk_St} {g : Nat → Nat} {T : List (Nat × List Nat × List Nat)} {F : List Nat} {G : List (Nat × Nat × Nat × Int64)} {L : List Nat} {n fu tc mc : Nat} {Q Q' : List sFr}
theorem yn_cge {n k : Nat} (hk : k < 2147483647) : nI k ≤ nI (yn_c n) ↔ k ≤ n := by
  have hb := yn_cb n
  rw [nI_leI (by omega) (by omega)]
  unfold yn_c
  split <;> omega
theorem sb_nL {m : Nat} (h : m < 2 ^ 32) : sb_n (lN m) = m := yx_lN (by omega)
theorem hi_simple {k p : Nat} {i : sIn} {ol : List (Nat × Option Nat)} (hfu : 8400 ≤ fu) (he : yCe T u) (hEn : sEn T F tc mc G u) (hLo : sLo T L u) (h : sH T Q u) (hQ : ¬ Q = []) (hk : k < 8192) (hi : yg_ins i) (hent : yk_ent u ol k i) (h16 : 16 ≤ i.1) (h40 : i.1 < 40) :
    HC (fm_Checker_checkInstruction fu (nI k) u) (sq_step T F tc mc G L k p i Q) (sPJ T i k Q u) := by
  obtain ⟨a1, a2, ⟨ns, m, a3, a4, a5, a6⟩, -, -⟩ := hent
  obtain ⟨op, t, x, np, l⟩ := i
  have h16 : 16 ≤ op := h16
  have h40 : op < 40 := h40
  obtain ⟨g1, g2, g3, g98, g114, g116, g117, g119⟩ := hi
  have g2 : ¬ xt_S op = 45 := g2
  have g3 : ¬ xt_S op = 33 := g3
  have hK := sK_0 he h hQ
  obtain ⟨n1, n2, n3, ⟨n4, n5⟩, ⟨n6, n7⟩, n8, n9, n10⟩ := hEn
  obtain ⟨l1, l2, l3⟩ := hLo
  have hops : ∀ o, o < 40 → (16 ≤ o ∧ ¬ xt_S o = 33 ∧ ¬ xt_S o = 45) → o ∈ [16, 17, 26, 27, 32, 33, 34, 35, 36] := by decide +kernel
  have hop := hops op h40 ⟨h16, g3, g2⟩
  simp only [List.mem_cons, List.not_mem_nil, or_false] at hop
  have hv : ∀ way, way < 3 → ∀ op', op' = 32 + way → u.2.2.1 8 k = nI (yn_c (yx_n t)) → HC (jb_Checker_checkSimple_210 fu (nI op') (u.2.2.1 8 k) u) (L[yx_n t]?.bind fun t => sq_var T way t Q) (sKJ T u) := fun way hw op' ho e8 => by
    rw [e8]
    unfold jb_Checker_checkSimple_210 jb_Checker_checkSimple_223
    rw [l1]
    have hge := yn_cge (n := yx_n t) (k := L.length) (by omega)
    by_cases z : L.length ≤ yx_n t
    · rw [if_pos (hge.mpr z), hh_needI (Or.inl rfl), if_pos rfl, List.getElem?_eq_none z]
      exact HC_no
    · rw [if_neg (fun y => z (hge.mp y)), hh_needI (Or.inr rfl), if_neg (show ¬ (1 : Int32) = 0 by decide)]
      obtain ⟨c, hc⟩ := yl_get (l := L) (k := yx_n t) (by omega)
      obtain ⟨c1, c2, c3⟩ := l3 _ c hc
      rw [yn_cs (by omega), if_neg (nI_in (N := 200) (by omega) (by decide)), nI_clamp (by omega), c1, hc]
      have : nI op' - 32 = nI way := by
        have := nI_subb (a := way) (b := 32)
        rw [show way + 32 = op' by omega] at this
        exact this
      rw [this]
      exact HC_end (hk_var hK c2 c3 hw)
  have hg : ∀ way, way < 2 → ∀ op', op' = 35 + way → u.2.2.1 8 k = nI (yn_c (yx_n t)) → HC (jb_Checker_checkSimple_243 fu (nI op') (u.2.2.1 8 k) u) (G[yx_n t]?.bind fun a => xs_if (op' = 35 ∨ a.2.1 = 1) (sq_var T way a.1 Q)) (sKJ T u) := fun way hw op' ho e8 => by
    rw [e8]
    unfold jb_Checker_checkSimple_243 jb_Checker_checkSimple_262 jb_Checker_checkSimple_287 jb_Checker_checkSimple_292
    rw [n8]
    have hge := yn_cge (n := yx_n t) (k := G.length) (by omega)
    by_cases z : G.length ≤ yx_n t
    · rw [if_pos (hge.mpr z), hh_needI (Or.inl rfl), if_pos rfl, List.getElem?_eq_none z]
      exact HC_no
    · rw [if_neg (fun y => z (hge.mp y)), hh_needI (Or.inr rfl), if_neg (show ¬ (1 : Int32) = 0 by decide)]
      obtain ⟨c, hc⟩ := yl_get (l := G) (k := yx_n t) (by omega)
      obtain ⟨c1, c2, c3, c4, c5⟩ := n10 _ c hc
      have : nI op' - 35 = nI way := by
        have := nI_subb (a := way) (b := 35)
        rw [show way + 35 = op' by omega] at this
        exact this
      rw [yn_cs (by omega), this, hh_ix (by omega), nI_clamp (by omega), c2, hc]
      have go : HC (xs_try (fm_Checker_need 1 u) fun _ u9 => if nI (yx_n t) < 0 ∨ 65 ≤ yx_n t then none else xs_try (fm_Checker_checkVariable (nI way) (u9.2.2.1 21 (yx_n t)) u9) fun _ u10 => some (.inl (), u10)) (sq_var T way c.1 Q) (sKJ T u) := by
        rw [hh_needI (Or.inr rfl), if_neg (show ¬ (1 : Int32) = 0 by decide), if_neg (show ¬ (nI (yx_n t) < 0 ∨ 65 ≤ yx_n t) from fun y => y.elim (nI_pos (by omega)) (by omega)), c1]
        exact HC_end (hk_var hK c4 c5 (by omega))
      have c35 : nI op' = (35 : Int32) ↔ op' = 35 := nI_eq (b := 35) (by omega) (by omega)
      have cm : nI c.2.1 = (1 : Int32) ↔ c.2.1 = 1 := nI_eq (b := 1) (by omega) (by omega)
      show HC _ (xs_if (op' = 35 ∨ c.2.1 = 1) (sq_var T way c.1 Q)) _
      by_cases z5 : op' = 35
      · rw [if_pos (c35.mpr z5), xs_ifp (Or.inl z5)]
        exact go
      · rw [if_neg (fun y => z5 (c35.mp y))]
        by_cases zm : c.2.1 = 1
        · rw [if_pos (cm.mpr zm), xs_ifp (Or.inr zm)]
          exact go
        · rw [if_neg (fun y => zm (cm.mp y)), xs_ifn (by omega), hh_needI (Or.inl rfl), if_pos rfl]
          exact HC_no
  rcases hop with rfl | rfl | rfl | rfl | rfl | rfl | rfl | rfl | rfl
  · -- 16
    have e8 : u.2.2.1 8 k = nI (yn_c (yx_n t)) := by rw [a3]; exact ye1_117
    rw [hi_sim (o := 16) hk a1 (by decide) (by decide)]
    refine sPo_K ?_ (by simp) (by simp)
    show HC _ (F[yx_n t]?.bind fun t => T[t]?.bind fun c => sq_sg T c.2.1.reverse c.2.2 Q) _
    unfold fm_Checker_checkSimple jb_Checker_checkSimple_111
    rw [if_pos (show nI 16 = (16 : Int32) from rfl), e8, n1]
    have hge := yn_cge (n := yx_n t) (k := F.length) (by omega)
    by_cases z : F.length ≤ yx_n t
    · rw [if_pos (hge.mpr z), hh_needI (Or.inl rfl), if_pos rfl, List.getElem?_eq_none z]
      exact HC_no
    · rw [if_neg (fun y => z (hge.mp y)), hh_needI (Or.inr rfl), if_neg (show ¬ (1 : Int32) = 0 by decide)]
      obtain ⟨c, hc⟩ := yl_get (l := F) (k := yx_n t) (by omega)
      obtain ⟨c1, d, d1, d2⟩ := n3 _ c hc
      rw [yn_cs (by omega), hh_ix (by omega), nI_clamp (by omega), c1, hc]
      show HC _ (T[c]?.bind fun c => sq_sg T c.2.1.reverse c.2.2 Q) _
      rw [d1]
      exact HC_end (hk_call (by omega) hK d1 d2)
  · -- 17
    have e8 : u.2.2.1 8 k = nI (yn_c (yx_n t)) := by rw [a3]; exact ye1_119
    have e2 : u.2.2.2 2 k = x := by rw [a2]; exact ye2_119
    rw [hi_sim (o := 17) hk a1 (by decide) (by decide)]
    refine sPo_K ?_ (by simp) (by simp)
    show HC _ (T[yx_n t]?.bind fun c => xs_if (c.1 = 96 ∧ tc = 1 ∧ x = 0) (sq_sg T (1 :: c.2.1.reverse) c.2.2 Q)) _
    unfold fm_Checker_checkSimple jb_Checker_checkSimple_178 jb_Checker_checkSimple_179
    rw [if_neg (show ¬ nI 17 = (16 : Int32) by decide), if_pos (show nI 17 = (17 : Int32) from rfl), e8]
    obtain ⟨i1, i2⟩ := hk_is (K := 96) (m := yx_n t) he (Or.inr (Or.inr rfl))
    by_cases z : yv_k T 96 (yx_n t)
    · obtain ⟨c, hc, h6⟩ := z
      have hlt := yl_lt hc
      have h64 := he.1.2.1
      rw [show fm_Types_is (nI (yn_c (yx_n t))) 96 u = some (1, u) from i1 ⟨c, hc, h6⟩, ys_seq, if_neg (show ¬ (1 : Int32) = 0 by decide), n4, hc]
      show HC _ (xs_if (c.1 = 96 ∧ tc = 1 ∧ x = 0) (sq_sg T (1 :: c.2.1.reverse) c.2.2 Q)) _
      have ct : nI tc = (1 : Int32) ↔ tc = 1 := nI_eq (b := 1) (by omega) (by omega)
      by_cases zt : tc = 1
      · rw [if_pos (ct.mpr zt), ix8192 hk, nI_clamp (by omega), e2]
        by_cases zx : x = 0
        · rw [if_pos zx, xs_ifp ⟨h6, zt, zx⟩, hh_needI (Or.inr rfl), if_neg (show ¬ (1 : Int32) = 0 by decide), sq_sgS, yn_cs (by omega)]
          refine HC_try (hk_take (x := 1) hK yvw_1) fun Q1 _ v _ h1 => ?_
          exact HC_end (hk_call (by omega) h1 hc h6)
        · rw [if_neg zx, xs_ifn (fun y => zx y.2.2), hh_needI (Or.inl rfl), if_pos rfl]
          exact HC_no
      · rw [if_neg (fun y => zt (ct.mp y)), xs_ifn (fun y => zt y.2.1), hh_needI (Or.inl rfl), if_pos rfl]
        exact HC_no
    · rw [show fm_Types_is (nI (yn_c (yx_n t))) 96 u = some (0, u) from i2 z, ys_seq, if_pos rfl, hh_needI (Or.inl rfl), if_pos rfl]
      have : (T[yx_n t]?.bind fun c => xs_if (c.1 = 96 ∧ tc = 1 ∧ x = 0) (sq_sg T (1 :: c.2.1.reverse) c.2.2 Q)) = none := by
        cases hc : T[yx_n t]? with
        | none => rfl
        | some c => exact xs_ifn fun y => z ⟨c, hc, y.1⟩
      rw [this]
      exact HC_no
  · -- 26
    rw [hi_sim (o := 26) hk a1 (by decide) (by decide)]
    refine sPo_K ?_ (by simp) (by simp)
    show HC _ ((sq_pop Q).bind fun x => some x.2) _
    have e : fm_Checker_checkSimple fu (nI 26) (u.2.2.1 8 k) (nI k) u = xs_try (fm_Checker_pop_ u) fun _ v => some (.inl (), v) := rfl
    rw [e]
    exact HC_try (hk_pop hK) fun y _ v _ hy => HC_ok ⟨(), v, rfl, hy.2.1⟩
  · -- 27
    rw [hi_sim (o := 27) hk a1 (by decide) (by decide)]
    refine sPo_K ?_ (by simp) (by simp)
    show HC _ (sq_choice T Q) _
    have e : fm_Checker_checkSimple fu (nI 27) (u.2.2.1 8 k) (nI k) u = xs_try (fm_Checker_checkChoice u) fun _ v => some (.inl (), v) := rfl
    rw [e]
    exact HC_end (hk_choice hK)
  · rw [hi_sim (o := 32) hk a1 (by decide) (by decide)]
    exact sPo_K (hv 0 (by decide) 32 rfl (by rw [a3]; exact ye1_117)) (by simp) (by simp)
  · rw [hi_sim (o := 33) hk a1 (by decide) (by decide)]
    exact sPo_K (hv 1 (by decide) 33 rfl (by rw [a3]; exact ye1_117)) (by simp) (by simp)
  · rw [hi_sim (o := 34) hk a1 (by decide) (by decide)]
    exact sPo_K (hv 2 (by decide) 34 rfl (by rw [a3]; exact ye1_117)) (by simp) (by simp)
  · rw [hi_sim (o := 35) hk a1 (by decide) (by decide)]
    exact sPo_K (hg 0 (by decide) 35 rfl (by rw [a3]; exact ye1_117)) (by simp) (by simp)
  · rw [hi_sim (o := 36) hk a1 (by decide) (by decide)]
    exact sPo_K (hg 1 (by decide) 36 rfl (by rw [a3]; exact ye1_117)) (by simp) (by simp)
theorem sq_stepR {e p : Nat} {i : sIn} (h : 40 ≤ i.1) : sq_step T F tc mc G L e p i Q =
  if i.1 < 65 then sq_mem T mc i.1 (yx_n i.2.1) Q
  else if i.1 < 67 then sq_push (i.1 - 64) Q
  else if i.1 < 208 then sq_num T i.1 Q
  else if i.1 = 208 then sq_null T (yx_n i.2.1) Q
  else if i.1 = 209 then sq_isnull Q
  else if i.1 = 211 then sq_sg T [17, 17] [1] Q
  else if i.1 = 212 then sq_asnn Q
  else if i.1 = 213 then sq_brn T (yx_n i.2.1) Q
  else if i.1 = 214 then sq_brnn T (yx_n i.2.1) Q
  else if i.1 < 262 then sq_struct T (i.1 - 256) (yx_n i.2.1) (sb_n i.2.2.1) Q
  else if i.1 = 271 then sq_len T Q
  else if i.1 < 276 then sq_array T (i.1 - 256) (yx_n i.2.1) (sb_n i.2.2.1) Q
  else sq_kind T (i.1 - 256) (yx_n i.2.1) Q := by
  unfold sq_step
  rw [if_neg (by omega), if_neg (by omega), if_neg (by omega), if_neg (by omega), if_neg (by omega), if_neg (by omega), if_neg (by omega), if_neg (by omega), if_neg (by omega), if_neg (by omega), if_neg (by omega), if_neg (by omega), if_neg (by omega), if_neg (by omega), if_neg (by omega), if_neg (by omega)]
theorem hi_others {k p : Nat} {i : sIn} {ol : List (Nat × Option Nat)} (hfu : 8400 ≤ fu) (he : yCe T u) (hEn : sEn T F tc mc G u) (h : sH T Q u) (hQ : ¬ Q = []) (hk : k < 8192) (hi : yg_ins i) (hent : yk_ent u ol k i) (h40 : 40 ≤ i.1) :
    HC (fm_Checker_checkInstruction fu (nI k) u) (sq_step T F tc mc G L k p i Q) (sPJ T i k Q u) := by
  obtain ⟨a1, a2, ⟨ns, m, a3, a4, a5, a6⟩, -, -⟩ := hent
  rw [if_neg (show ¬ i.1 = 11 by omega)] at a1
  have hK := sK_0 he h hQ
  obtain ⟨n1, n2, n3, ⟨n4, n5⟩, ⟨n6, n7⟩, n8, n9, n10⟩ := hEn
  obtain ⟨g1, g2, g3, g98, g114, g116, g117, g119⟩ := hi
  rw [sq_stepR h40]
  by_cases z1 : i.1 < 65
  · rw [if_pos z1, hi_mem hk a1 h40 (by omega)]
    refine sPo_K ?_ (by omega) (by omega)
    by_cases zz : i.1 < 63
    · have hs : xt_S i.1 = 119 := (by decide +kernel : ∀ o, o < 63 → 40 ≤ o → ¬ xt_S o = 45 → xt_S o = 119) i.1 zz h40 g2
      rw [hs] at a3
      rw [a3, ye1_119]
      exact hk_mem hK h40 (by omega) g2 n6 (by omega)
    · -- no align
      have : fm_Checker_checkMemory (nI i.1) (u.2.2.1 8 k) u = fm_Checker_checkMemory (nI i.1) (nI (yn_c (yx_n i.2.1))) u := by
        unfold fm_Checker_checkMemory jb_Checker_checkMemory_19
        have c63 : ¬ nI i.1 < (63 : Int32) := fun y => by have := (nI_ltI (b := 63) (by omega) (by omega)).mp y; omega
        simp only [if_neg c63]
      rw [this]
      exact hk_mem hK h40 (by omega) g2 n6 (by omega)
  · rw [if_neg z1]
    by_cases z2 : i.1 < 67
    · rw [if_pos z2, hi_con hk a1 (by omega)]
      refine sPo_K ?_ (by omega) (by omega)
      exact hk_push hK (Or.inr (Or.inl (by omega)))
    · rw [if_neg z2, hi_rest hk a1 (by omega) g1]
      by_cases z3 : i.1 < 208
      · rw [if_pos z3, if_pos z3]
        exact sPo_K (hk_num (by omega) hK z3) (by omega) (by omega)
      · rw [if_neg z3, if_neg z3]
        by_cases z4 : i.1 < 256
        · rw [if_pos z4]
          have hops : ∀ o, o < 256 → (208 ≤ o ∧ ¬ xt_S o = 33 ∧ ¬ xt_S o = 45) → o ∈ [208, 209, 211, 212, 213, 214] := by decide +kernel
          obtain ⟨op, t, x, np, l⟩ := i
          have hop := hops op z4 ⟨by omega, g3, g2⟩
          simp only [List.mem_cons, List.not_mem_nil, or_false] at hop
          rcases hop with rfl | rfl | rfl | rfl | rfl | rfl
          · obtain ⟨t', t1, t2⟩ := g116 rfl
            have t2 : t = .inr (lN t') := t2
            have e8 : u.2.2.1 8 k = nI (yv_t (yx_n t)) := by rw [a3]; exact ye1_116
            exact sPo_K (hk_208 (t := yx_n t) hK hk e8 (by rw [t2, yx_lN (by omega)]; exact t1)) (by simp) (by simp)
          · exact sPo_K (hk_209 (k := k) hK) (by simp) (by simp)
          · exact sPo_K (hk_211 (k := k) (by omega) hK) (by simp) (by simp)
          · exact sPo_K (hk_212 (k := k) hK) (by simp) (by simp)
          · have e8 : u.2.2.1 8 k = nI (yn_c (yx_n t)) := by rw [a3]; exact ye1_117
            exact sPo_B (i := (213, t, x, np, l)) (hk_brn (by omega) hK hk e8) (by simp)
          · have e8 : u.2.2.1 8 k = nI (yn_c (yx_n t)) := by rw [a3]; exact ye1_117
            exact sPo_B (i := (214, t, x, np, l)) (hk_brnn (by omega) hK hk e8) (by simp)
        · rw [if_neg z4, if_neg (show ¬ i.1 = 208 by omega), if_neg (show ¬ i.1 = 209 by omega), if_neg (show ¬ i.1 = 211 by omega), if_neg (show ¬ i.1 = 212 by omega), if_neg (show ¬ i.1 = 213 by omega), if_neg (show ¬ i.1 = 214 by omega)]
          have hsec : ∀ {y : Int64}, (xt_S i.1 = 117 ∨ xt_S i.1 = 119) → u.2.2.1 8 k = nI (yn_c (yx_n i.2.1)) ∧ u.2.2.2 2 k = lN (sb_n i.2.2.1) ∧ sb_n i.2.2.1 < 2 ^ 32 := fun {_} hs => by
            rcases hs with hs | hs
            · obtain ⟨m', -, -, m3⟩ := g117 hs
              rw [hs] at a3 a2
              rw [a3, a2, ye1_117, ye2_117, m3]
              exact ⟨rfl, rfl, by decide⟩
            · obtain ⟨m', x', -, m2, -, m4⟩ := g119 hs
              rw [hs] at a3 a2
              rw [a3, a2, ye1_119, ye2_119, m4, sb_nL m2]
              exact ⟨rfl, rfl, m2⟩
          by_cases z5 : i.1 < 262
          · rw [if_pos z5, if_pos z5]
            have hs : xt_S i.1 = 117 ∨ xt_S i.1 = 119 := (by decide +kernel : ∀ o, o < 262 → 256 ≤ o → xt_S o = 117 ∨ xt_S o = 119) i.1 z5 (by omega)
            obtain ⟨s1, s2, s3⟩ := hsec (y := 0) hs
            rw [s1, s2]
            exact sPo_K (hk_struct (by omega) hK (by omega) s3) (by omega) (by omega)
          · rw [if_neg z5, if_neg z5]
            by_cases z6 : i.1 < 276
            · rw [if_pos z6]
              by_cases z7 : i.1 = 271
              · rw [if_pos z7, z7]
                have e : fm_Checker_checkArray fu (nI (271 - 256)) (u.2.2.1 8 k) (u.2.2.2 2 k) u = xs_try (fm_Checker_checkLength u) fun _ v => some (.inl (), v) := rfl
                rw [e]
                exact sPo_K (HC_end (hk_len hK)) (by omega) (by omega)
              · rw [if_neg z7, if_pos z6]
                have hs : (xt_S i.1 = 117 ∨ xt_S i.1 = 119) ∧ i.1 ≤ 272 ∧ ¬ i.1 = 265 ∧ ¬ i.1 = 266 := (by decide +kernel : ∀ o, o < 276 → (262 ≤ o ∧ ¬ o = 271 ∧ ¬ xt_S o = 45) → ((xt_S o = 117 ∨ xt_S o = 119) ∧ o ≤ 272 ∧ ¬ o = 265 ∧ ¬ o = 266)) i.1 z6 ⟨by omega, z7, g2⟩
                obtain ⟨s1, s2, s3⟩ := hsec (y := 0) hs.1
                rw [s1, s2]
                exact sPo_K (hk_array (by omega) hK (by omega) (by omega) (by omega) (by omega) s3) (by omega) (by omega)
            · rw [if_neg z6, if_neg (show ¬ i.1 = 271 by omega), if_neg z6]
              have hs : (i.1 < 280 → xt_S i.1 = 116) ∧ (i.1 < 280 ∨ 284 ≤ i.1) := (by decide +kernel : ∀ o, o < 287 → 276 ≤ o → ¬ xt_S o = 45 → ((o < 280 → xt_S o = 116) ∧ (o < 280 ∨ 284 ≤ o))) i.1 g1 (by omega) g2
              refine sPo_K (hk_kind hK (by omega) (fun y => ?_) (by omega)) (by omega) (by omega)
              have hs' := hs.1 (by omega)
              obtain ⟨t', t1, t2⟩ := g116 hs'
              rw [hs'] at a3
              rw [a3, ye1_116]
              exact ⟨rfl, by rw [t2, yx_lN (by omega)]; exact t1⟩
end
