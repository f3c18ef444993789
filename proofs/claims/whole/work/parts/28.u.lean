section
variable {α β γ δ σ τ : Type} {B : Nat → Int32} {u v w z u0 u1 : xk_St} {lim p q : Nat} {T : List (Nat × List Nat × List Nat)} {F : List Nat} {G : List (Nat × Nat × Nat × Int64)} {L : List Nat} {n fu tc mc : Nat} {Q Q' Q1 : List sFr} {h : Nat → Nat}
/-- groups of locals, by the document -/
noncomputable def sq_dcl (T : List (Nat × List Nat × List Nat)) : List (Nat × Nat) → List Nat → Option (List Nat)
  | [], L => some L
  | c :: r, L => xs_if (yv_in T T.length c.2 ∧ ydf c.2 ∧ c.1 ≤ 200 - L.length) (sq_dcl T r (L ++ List.replicate c.1 c.2))
theorem hc_fill {x : Int32} : ∀ (j a m n : Nat) (u : xk_St), a + j = m → m ≤ 200 → j < n → ∃ w, jb_Arrays_fill_AIIII__h59_10 fu n (nI m) x (nI a) u = some ((), w) ∧ yf_fr [] [] [36] [] u w ∧ (∀ i, a ≤ i → i < m → w.2.2.1 36 i = x) ∧ ∀ i, i < a → w.2.2.1 36 i = u.2.2.1 36 i := by
  intro j
  induction j with
  | zero =>
    intro a m n u ha hm hn
    obtain ⟨n, rfl⟩ : ∃ m, n = m + 1 := ⟨n - 1, by omega⟩
    obtain rfl : a = m := by omega
    unfold jb_Arrays_fill_AIIII__h59_10
    simp only [xs_let]
    rw [if_pos (Int32.le_refl _)]
    exact ⟨u, rfl, yf_refl, fun i h1 h2 => by omega, fun _ _ => rfl⟩
  | succ j ih =>
    intro a m n u ha hm hn
    obtain ⟨n, rfl⟩ : ∃ m, n = m + 1 := ⟨n - 1, by omega⟩
    unfold jb_Arrays_fill_AIIII__h59_10
    simp only [xs_let]
    rw [if_neg (nI_ge (by omega) (by omega)), if_neg (nI_in (N := 200) (by omega) (by decide)), nI_clamp (by omega), nI_1]
    obtain ⟨w, w1, w2, w3, w4⟩ := ih (a + 1) m n (xs_A u 36 a x) (by omega) hm (by omega)
    refine ⟨w, w1, yf_trans (yf_A yf_refl (by decide)) w2, fun i h1 h2 => ?_, fun i hi => ?_⟩
    · by_cases zi : i = a
      · subst zi
        rw [w4 i (by omega)]
        show upd (u.2.2.1 36) i x i = x
        exact ya_t
      · exact w3 i (by omega) h2
    · rw [w4 i (by omega)]
      show upd (u.2.2.1 36) a x i = _
      exact ya_j (by omega)
theorem hc_declare {c : Nat × Nat} (hfu : 400 ≤ fu) (he : yCe T u) (hLo : sLo T L u) (hc : 0 < c.2 ∧ c.2 ≤ 149 ∧ (c.2 = 1 ∨ c.2 = 2 ∨ 16 ≤ c.2)) : HC (fm_Checker_declare fu (nI (yn_c c.1)) (nI (yv_h c.2)) u) (xs_if (yv_in T T.length c.2 ∧ ydf c.2 ∧ c.1 ≤ 200 - L.length) (some (L ++ List.replicate c.1 c.2))) (HJ fun L' _ v => sLo T L' v ∧ yf_fr [22] [] [36] [] u v) := by
  obtain ⟨l1, l2, l3⟩ := hLo
  have h64 := he.1.2.1
  unfold fm_Checker_declare jb_Checker_declare_22
  obtain ⟨k1, k2⟩ := hh_knows (T := T) (u := u) (x := c.2) (by omega) he.1
  have no : HC (jb_Checker_declare_23 fu (nI (yn_c c.1)) (nI (yv_h c.2)) 0 u) none (HJ fun L' _ v => sLo T L' v ∧ yf_fr [22] [] [36] [] u v) := by
    unfold jb_Checker_declare_23
    rw [hh_needI (Or.inl rfl), if_pos rfl]
    exact HC_no
  by_cases z1 : yv_in T T.length c.2
  · rw [k1 z1, ys_seq, if_neg (show ¬ (1 : Int32) = 0 by decide)]
    obtain ⟨d1, d2⟩ := hk_dflt (u := u) (d := c.2) (by omega)
    by_cases z2 : ydf c.2
    · rw [d1 z2, ys_seq, if_neg (show ¬ (1 : Int32) = 0 by decide)]
      unfold jb_Checker_declare_23 jb_Checker_declare_43
      rw [hh_needI (Or.inr rfl), if_neg (show ¬ (1 : Int32) = 0 by decide), l1]
      have e1 : (200 : Int32) - nI L.length = nI (200 - L.length) := by
        have := nI_subb (a := 200 - L.length) (b := L.length)
        rw [show 200 - L.length + L.length = 200 by omega] at this
        exact this
      have hle := yn_cl (n := c.1) (k := 200 - L.length) (by omega)
      rw [e1]
      by_cases z3 : c.1 ≤ 200 - L.length
      · rw [if_neg (fun y => (Int32.not_le.mpr y) (hle.mpr z3)), hh_needI (Or.inr rfl), if_neg (show ¬ (1 : Int32) = 0 by decide), xs_ifp ⟨z1, z2, z3⟩, l1, yn_cs (by omega), nI_add]
        unfold fm_Arrays_fill_AIIII__h59 fm_Arrays_rangeCheck__h
        rw [if_pos (nI_le (by omega) (by omega)), if_pos (show (0 : Int32) ≤ nI L.length from nI_le (a := 0) (by omega) (by omega)), if_pos (show nI (L.length + c.1) ≤ (200 : Int32) from nI_le (b := 200) (by omega) (by omega)), ys_seq]
        obtain ⟨w, w1, w2, w3, w4⟩ := hc_fill (fu := fu) (x := nI (yv_h c.2)) c.1 L.length (L.length + c.1) fu u rfl (by omega) (by omega)
        rw [w1, ys_seq]
        have w22 : w.1 22 = nI L.length := (w2.1 22 (by decide)).trans l1
        simp only [xs_let]
        rw [w22, nI_add]
        refine HC_ok ⟨(), _, rfl, ⟨?_, ?_, fun k d hd => ?_⟩, yf_I (yf_mono w2 (by decide)) (by decide)⟩
        · rw [List.length_append, List.length_replicate]; rfl
        · rw [List.length_append, List.length_replicate]; omega
        · show w.2.2.1 36 k = _ ∧ _
          have hin := yv_inS hc.1 (by omega) hc.2.2 z1
          by_cases zk : k < L.length
          · rw [List.getElem?_append_left zk] at hd
            rw [w4 k zk]
            exact l3 k d hd
          · rw [List.getElem?_append_right (by omega)] at hd
            have hlt := yl_lt hd
            rw [List.length_replicate] at hlt
            rw [List.getElem?_replicate, if_pos hlt] at hd
            cases hd
            rw [w3 k (by omega) (by omega), yu_h (by omega)]
            exact ⟨rfl, hin.1, hin.2.1⟩
      · rw [if_pos (Int32.not_le.mp fun y => z3 (hle.mp y)), hh_needI (Or.inl rfl), if_pos rfl, xs_ifn (fun y => z3 y.2.2)]
        exact HC_no
    · rw [d2 z2, ys_seq, if_pos rfl, xs_ifn (fun y => z2 y.2.1)]
      exact no
  · rw [k2 z1, ys_seq, if_pos rfl, xs_ifn (fun y => z1 y.1)]
    exact no
/-- the entries of a body's locals -/
theorem hc_locs {m : Nat} {b1 : Int32} (hfu : 8400 ≤ fu) (he : yCe T u0) (hm : u0.1 8 = nI m) (hm2 : m ≤ 8192) (hd : 0 < u0.1 21) : ∀ (ls : List (Nat × Nat)) (k : Nat) (L : List Nat) (v : xk_St) (n : Nat), yf_fr [22] [] [36] [] u0 v → sLo T L v → (∀ (i : Nat) c, ls[i]? = some c → u0.2.2.1 7 (k + i) = 8 ∧ u0.2.2.1 8 (k + i) = nI (yn_c c.1) ∧ u0.2.2.2 2 (k + i) = lN (yv_h c.2)) → (∀ (i : Nat) c, ls[i]? = some c → 0 < c.2 ∧ c.2 ≤ 149 ∧ (c.2 = 1 ∨ c.2 = 2 ∨ 16 ≤ c.2)) → k + ls.length ≤ m → ls.length ≤ n →
    HC (jb_Checker_checkBody_108 fu n b1 (nI k) v) (sq_dcl T ls L) fun L' o => ∃ w, o = jb_Checker_checkBody_108 fu (n - ls.length) b1 (nI (k + ls.length)) w ∧ sLo T L' w ∧ yf_fr [22] [] [36] [] u0 w := by
  intro ls
  induction ls with
  | nil =>
    intro k L v n hv hLo _ _ _ _
    exact HC_ok ⟨v, rfl, hLo, hv⟩
  | cons c r ih =>
    intro k L v n hv hLo hent hc hkm hn
    rw [List.length_cons] at hkm hn
    obtain ⟨n, rfl⟩ : ∃ m, n = m + 1 := ⟨n - 1, by omega⟩
    obtain ⟨a1, a2, a3⟩ := hent 0 c rfl
    rw [Nat.add_zero] at a1 a2 a3
    have e8 : v.1 8 = nI m := (hv.1 8 (by decide)).trans hm
    have e21 : v.1 21 = u0.1 21 := hv.1 21 (by decide)
    have h7 : v.2.2.1 7 k = nI 8 := by rw [hv.2.2.1 7 (by decide), a1]; rfl
    have h8 : v.2.2.1 8 k = nI (yn_c c.1) := by rw [hv.2.2.1 8 (by decide), a2]
    have h2 : v.2.2.2 2 k = lN (yv_h c.2) := by rw [hv.2.2.2 2 (by decide), a3]
    have hstp : jb_Checker_checkBody_108 fu (n + 1) b1 (nI k) v = xs_try (fm_Checker_checkInstruction fu (nI k) v) fun _ w => jb_Checker_checkBody_108 fu n b1 (nI (k + 1)) w := by
      conv => lhs; unfold jb_Checker_checkBody_108
      simp only [xs_let]
      rw [e8, if_neg (nI_ge (by omega) (by omega)), if_neg (show ¬ v.1 21 ≤ 0 by rw [e21]; exact Int32.not_le.mpr hd)]
      simp only [nI_1]
    have hcc := hc 0 c rfl
    have hyv : yv_h c.2 < 2 ^ 31 := by unfold yv_h; split <;> omega
    have hctl : fm_Checker_checkInstruction fu (nI k) v = xs_try (xs_try (fm_Checker_declare fu (nI (yn_c c.1)) (nI (yv_h c.2)) v) fun _ u7 => some (.inl (), u7)) fun _ v => some (.inl (), v) := by
      rw [hi_ctl (o := 8) (by omega) h7 (by decide)]
      congr 1
      unfold fm_Checker_checkControl
      rw [if_neg (show ¬ nI 8 = (0 : Int32) by decide), if_neg (show ¬ nI 8 = (1 : Int32) by decide), if_neg (show ¬ nI 8 = (2 : Int32) by decide), if_neg (show ¬ nI 8 = (3 : Int32) by decide), if_neg (show ¬ nI 8 = (4 : Int32) by decide), if_neg (show ¬ nI 8 = (5 : Int32) by decide), if_neg (show ¬ nI 8 = (6 : Int32) by decide), if_neg (show ¬ nI 8 = (7 : Int32) by decide), if_pos (show nI 8 = (8 : Int32) from rfl), ix8192 (by omega), ix8192 (by omega), nI_clamp (by omega), h8, h2]
      rw [show (lN (yv_h c.2)).toInt32 = nI (yv_h c.2) by rw [← nI_toL hyv]; exact Int32.toInt32_toInt64 _]
    rw [hstp, hctl]
    have hsp : sq_dcl T (c :: r) L = (xs_if (yv_in T T.length c.2 ∧ ydf c.2 ∧ c.1 ≤ 200 - L.length) (some (L ++ List.replicate c.1 c.2))).bind fun L' => sq_dcl T r L' := by
      show xs_if _ _ = _
      by_cases zz : yv_in T T.length c.2 ∧ ydf c.2 ∧ c.1 ≤ 200 - L.length
      · rw [xs_ifp zz, xs_ifp zz]; rfl
      · rw [xs_ifn zz, xs_ifn zz]; rfl
    rw [hsp]
    refine HC_try (HC_fin (HC_fin (hc_declare (by omega) (yCe_fr he hv (by decide)) hLo hcc) (I' := fun L' _ w => sLo T L' w ∧ yf_fr [22] [] [36] [] v w) fun _ _ _ _ hI => hI) (I' := fun L' _ w => sLo T L' w ∧ yf_fr [22] [] [36] [] v w) fun _ _ _ _ hI => hI) fun L' _ w _ hI => ?_
    refine HC_mono (ih (k + 1) L' w n (yf_trans hv hI.2) hI.1 (fun i d hd' => ?_) (fun i d hd' => hc (i + 1) d hd') (by omega) (by omega)) fun L2 _ hJ => ?_
    · have := hent (i + 1) d hd'
      rw [show k + (i + 1) = k + 1 + i by omega] at this
      exact this
    · obtain ⟨z, j1, j2, j3⟩ := hJ
      refine ⟨z, ?_, j2, j3⟩
      rw [j1, List.length_cons, show n + 1 - (r.length + 1) = n - r.length by omega, show k + (r.length + 1) = k + 1 + r.length by omega]
end
