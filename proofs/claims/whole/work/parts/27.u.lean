section
variable {α β γ δ : Type} {B : Nat → Int32} {u v w : xk_St} {L lim p q fu D len : Nat} {e : Int32} {S : Nat → Option (Nat × Nat)} {g : Nat → Nat}
variable {T : List (Nat × List Nat × List Nat)} {F : List Nat} {l4 l5 : List (Nat × Option Nat)} {l6 : List (Nat × Nat × Nat × Int64)} {l7 : List ((Nat × Nat) × Nat × Nat)} {n8 : Option Nat} {l9 : List (Int64 × List Nat)} {l10 : List (Nat × List (Nat × Nat) × List (Nat × Nat × (Option Nat ⊕ Int64) × Int64 × Nat × List Nat))} {l11 : List (Int64 × Nat × Nat)}
/-- the module's parts, as they were read -/
def yMod (D : Nat) (B : Nat → Int32) (S : Nat → Option (Nat × Nat)) (T : List (Nat × List Nat × List Nat)) (F : List Nat) (l4 l5 : List (Nat × Option Nat)) (l6 : List (Nat × Nat × Nat × Int64)) (l7 : List ((Nat × Nat) × Nat × Nat)) (n8 : Option Nat) (l9 : List (Int64 × List Nat)) (l10 : List (Nat × List (Nat × Nat) × List (Nat × Nat × (Option Nat ⊕ Int64) × Int64 × Nat × List Nat))) (l11 : List (Int64 × Nat × Nat)) : Prop :=
  yX B (yp_tf B) (S 1) T ∧ yX B (yp_N B) (S 3) F ∧ yX B (yp_tab B) (S 4) l4 ∧ yX B (yp_limits B) (S 5) l5 ∧ yX B (yp_glo B) (S 6) l6 ∧ yX B (yp_exp B) (S 7) l7 ∧ yX8 B (S 8) n8 ∧ yX B (yp_el B) (S 9) l9 ∧ yX B (yp_body D B) (S 10) l10 ∧ yX B (yp_da B) (S 11) l11
/-- all is as it must be, but for the bodies -/
def yVp (B : Nat → Int32) (T : List (Nat × List Nat × List Nat)) (F : List Nat) (l4 l5 : List (Nat × Option Nat)) (l6 : List (Nat × Nat × Nat × Int64)) (l7 : List ((Nat × Nat) × Nat × Nat)) (n8 : Option Nat) (l9 : List (Int64 × List Nat)) (nb : Nat) (l11 : List (Int64 × Nat × Nat)) : Prop :=
  yV1 T ∧ (F.length ≤ 64 ∧ ∀ (k : Nat) t, F[k]? = some t → yv_fn T t) ∧ yv_lim 64 l4 ∧ yv_lim 16 l5 ∧ (l6.length ≤ 64 ∧ ∀ (k : Nat) a, l6[k]? = some a → yv_glo T a) ∧ (l7.length ≤ 64 ∧ ∀ (k : Nat) a, l7[k]? = some a → yv_exp B l7 F.length l4.length l5.length l6.length k a) ∧ yv_first T F n8 ∧ yv_el F.length l4.length l9 ∧ nb = F.length ∧ (l11.length ≤ 64 ∧ (l11.length = 0 ∨ l5.length = 1))
theorem yX_len {it : Nat → Nat → (α × Nat) ⊕ Nat} {s : Option (Nat × Nat)} {l : List α} (hit : ∀ lim, yp_eats lim (it lim)) (h : yX B it s l) : l.length ≤ 8192 := by
  cases s with
  | none => have : l = [] := h; rw [this]; exact Nat.zero_le _
  | some x => exact (yp_row_len (hit _) h.2.1 h.2.2).1
theorem yX_all {it : Nat → Nat → (α × Nat) ⊕ Nat} {s : Option (Nat × Nat)} {l : List α} {Q : α → Prop} (hQ : ∀ lim p a q, lim ≤ 8192 → it lim p = .inl (a, q) → Q a) (h : yX B it s l) : ∀ (k : Nat) a, l[k]? = some a → Q a := by
  cases s with
  | none => have : l = [] := h; rw [this]; intro k a ha; simp at ha
  | some x =>
    obtain ⟨n, r, h1, h2⟩ := yp_thenI h.2.2
    exact yp_rep_all (fun p a q ha => hQ _ p a q h.2.1 ha) h2
theorem yX8_inj {s : Option (Nat × Nat)} {n n' : Option Nat} (h : yX8 B s n) (h' : yX8 B s n') : n = n' := by
  cases s with
  | none => exact Eq.trans h (Eq.symm h')
  | some x =>
    obtain ⟨-, -, m, rfl, h1⟩ := h
    obtain ⟨-, -, m', rfl, h2⟩ := h'
    rw [h2] at h1
    rw [(Prod.mk.inj (Sum.inl.inj h1)).1]
theorem hh_needI {s : Int32} {f : Unit → xk_St → Option ((β ⊕ Nat) × xk_St)} (h : s = 0 ∨ s = 1) : xs_try (fm_Checker_need s u) f = if s = 0 then some (.inr 0, u) else f () u := by
  rcases h with rfl | rfl
  · rfl
  · rfl
/-- the class's check of all parts but the bodies -/
theorem hh_parts (hfu : 8200 ≤ fu) (hM : yMod D B S T F l4 l5 l6 l7 n8 l9 l10 l11) (hD : yDall D B S u) (hB : u.2.2.1 1 = B) :
    (yVp B T F l4 l5 l6 l7 n8 l9 l10.length l11 → ∃ v, fm_Checker_checkParts fu u = some (.inl (), v) ∧ yf_fr [] [] [5] [] u v ∧ ∀ k, k < T.length → v.2.2.1 5 k = nI (yl_f T k)) ∧ (¬ yVp B T F l4 l5 l6 l7 n8 l9 l10.length l11 → ∃ v, fm_Checker_checkParts fu u = some (.inr 0, v) ∧ yf_fr [] [] [5] [] u v) := by
  obtain ⟨m1, m3, m4, m5, m6, m7, m8, m9, m10, m11⟩ := hM
  obtain ⟨⟨x1, a1, b1, c1⟩, ⟨x3, a3, b3, c3⟩, ⟨x4, a4, b4, c4⟩, ⟨x5, a5, b5, c5⟩, ⟨x6, a6, b6, c6⟩, ⟨x7, a7, b7, c7⟩, ⟨x8, a8, b8⟩, ⟨x9, a9, b9, c9⟩, ⟨x10, a10, b10, c10⟩, ⟨x11, a11, b11, c11⟩, -⟩ := hD
  obtain rfl := yX_inj m1 a1
  obtain rfl := yX_inj m3 a3
  obtain rfl := yX_inj m4 a4
  obtain rfl := yX_inj m5 a5
  obtain rfl := yX_inj m6 a6
  obtain rfl := yX_inj m7 a7
  obtain rfl := yX8_inj m8 a8
  obtain rfl := yX_inj m9 a9
  obtain rfl := yX_inj m10 a10
  obtain rfl := yX_inj m11 a11
  have L1 := yX_len (fun _ => yp_tf_eats) m1
  have L3 := yX_len (fun _ => yp_N_eats') m3
  have L4 := yX_len (fun _ => yp_tab_eats) m4
  have L5 := yX_len (fun _ => yp_limits_eats') m5
  have L6 := yX_len (fun _ => yp_glo_eats) m6
  have L7 := yX_len (fun _ => yp_exp_eats) m7
  have L9 := yX_len (fun _ => yp_el_eats) m9
  have L10 := yX_len (fun _ => yp_body_eats) m10
  have L11 := yX_len (fun _ => yp_da_eats) m11
  have g64 : ∀ n, n ≤ 8192 → ((64 : Int32) < nI n ↔ ¬ n ≤ 64) := fun n h => (nI_ltI (a := 64) (by decide) (by omega)).trans ⟨fun z => by omega, fun z => by omega⟩
  unfold fm_Checker_checkParts jb_Checker_checkParts_46 jb_Checker_checkParts_47 jb_Checker_checkParts_99 jb_Checker_checkParts_100 jb_Checker_checkParts_128
  simp only [hh_needI (Or.inl rfl), hh_needI (Or.inr rfl), if_true, if_neg (show ¬ (1 : Int32) = 0 by decide)]
  rw [b1, b3, b6, b7, b9, b11, b10]
  have bad : ∀ {P : Prop}, ¬ P → (P → ∃ v, (some (Sum.inr 0, u) : Option ((Unit ⊕ Nat) × xk_St)) = some (.inl (), v) ∧ yf_fr [] [] [5] [] u v ∧ ∀ k, k < T.length → v.2.2.1 5 k = nI (yl_f T k)) ∧ (¬ P → ∃ v, (some (Sum.inr 0, u) : Option ((Unit ⊕ Nat) × xk_St)) = some (.inr 0, v) ∧ yf_fr [] [] [5] [] u v) := fun h => ⟨fun z => absurd z h, fun _ => ⟨u, rfl, yf_refl⟩⟩
  by_cases z1 : T.length ≤ 64
  · rw [if_neg (fun z => (g64 _ L1).mp z z1)]
    by_cases z3 : F.length ≤ 64
    · rw [if_neg (fun z => (g64 _ L3).mp z z3)]
      by_cases z6 : l6.length ≤ 64
      · rw [if_neg (fun z => (g64 _ L6).mp z z6)]
        by_cases z7 : l7.length ≤ 64
        · rw [if_neg (fun z => (g64 _ L7).mp z z7)]
          by_cases z9 : l9.length ≤ 64
          · rw [if_neg (fun z => (g64 _ L9).mp z z9)]
            by_cases z11 : l11.length ≤ 64
            · rw [if_neg (fun z => (g64 _ L11).mp z z11)]
              have e10 : nI l10.length = nI F.length ↔ l10.length = F.length := nI_eq (by omega) (by omega)
              by_cases z10 : l10.length = F.length
              · rw [if_pos (e10.mpr z10)]
                -- types
                have hT : yTh T u := ⟨b1, z1, fun k c hc => ⟨c1 k c (by have := yl_lt hc; omega) hc, yX_all (fun _ _ _ _ _ h => yp_tf_g h) m1 k c hc⟩⟩
                obtain ⟨t1, t2⟩ := hh_checkTypes (fu := fu) (by omega) hT
                by_cases v1 : yV1 T
                · obtain ⟨v, d1, d2, d3⟩ := t1 v1
                  rw [d1, ys_tryl]
                  have bad2 : ∀ {P : Prop}, ¬ P → (P → ∃ w, (some (Sum.inr 0, v) : Option ((Unit ⊕ Nat) × xk_St)) = some (.inl (), w) ∧ yf_fr [] [] [5] [] u w ∧ ∀ k, k < T.length → w.2.2.1 5 k = nI (yl_f T k)) ∧ (¬ P → ∃ w, (some (Sum.inr 0, v) : Option ((Unit ⊕ Nat) × xk_St)) = some (.inr 0, w) ∧ yf_fr [] [] [5] [] u w) := fun h => ⟨fun z => absurd z h, fun _ => ⟨v, rfl, d2⟩⟩
                  have hTv : yTh T v := yTh_fr hT d2 (by decide)
                  have bv : ∀ k, v.1 k = u.1 k := fun k => d2.1 k (by simp)
                  -- functions
                  obtain ⟨f1, f2⟩ := hh_functions (fu := fu) (u := v) (T := T) (F := F) (n := n8) (by omega) z3 ((bv 10).trans b3) (yi_keep c3 fun k c h => by rw [d2.2.2.1 12 (by decide)]; exact h) (yX_all (fun _ _ _ _ _ h => (yp_Nb h).1) m3) ((bv 6).trans b8) (fun m hm => by
                    cases hs : S 8 with
                    | none => rw [hs] at m8; rw [show n8 = none from m8] at hm; cases hm
                    | some x =>
                      rw [hs] at m8
                      obtain ⟨-, -, m', h1, h2⟩ := m8
                      rw [h1] at hm; cases hm
                      exact (yp_Nb h2).1) hTv v1
                  by_cases vf : (∀ (k : Nat) t, F[k]? = some t → yv_fn T t) ∧ yv_first T F n8
                  · rw [f1 vf, ys_tryl]
                    obtain ⟨p1, p2⟩ := hh_limT (u := v) (l := l4) (by omega) ((bv 11).trans b4) (yi_keep c4 fun k c h => by rw [d2.2.2.1 16 (by decide), d2.2.2.1 17 (by decide)]; exact h) (yX_all (fun _ _ _ _ _ h => by obtain ⟨a, r, h1, h2⟩ := yp_thenI h; exact yp_limits_b h2) m4)
                    by_cases v4 : yv_lim 64 l4
                    · rw [p1 v4, ys_tryl]
                      obtain ⟨q1, q2⟩ := hh_limM2 (u := v) (l := l5) (by omega) ((bv 12).trans b5) (yi_keep c5 fun k c h => by rw [d2.2.2.1 19 (by decide), d2.2.2.1 20 (by decide)]; exact h) (yX_all (fun _ _ _ _ _ h => yp_limits_b h) m5)
                      by_cases v5 : yv_lim 16 l5
                      · rw [q1 v5, ys_tryl]
                        have l4b := v4.1
                        have l5b := v5.1
                        obtain ⟨r1, r2⟩ := hh_globals (fu := fu) (u := v) (l := l6) (T := T) (by omega) z6 ((bv 13).trans b6) (yi_keep c6 fun k c h => by
                          obtain ⟨h1, h2, h3, h4⟩ := h
                          refine ⟨?_, ?_, ?_, ?_⟩
                          · rw [d2.2.2.1 21 (by decide)]; exact h1
                          · rw [d2.2.2.1 22 (by decide)]; exact h2
                          · rw [d2.2.2.1 23 (by decide)]; exact h3
                          · rw [d2.2.2.2 6 (by decide)]; exact h4) (yX_all (fun _ _ a _ _ h => by
                          obtain ⟨c, r, h1, h⟩ := yp_thenI h
                          obtain ⟨f, r2, h2, h⟩ := yp_thenI h
                          obtain ⟨k, r3, h3, h⟩ := yp_thenI h
                          cases h
                          have hv1 := yp_Vb h1
                          have hc1 := yp_const_b h3
                          exact ⟨by show c < 150; omega, hc1⟩) m6) hTv v1 d3
                        by_cases v6 : ∀ (k : Nat) a, l6[k]? = some a → yv_glo T a
                        · rw [r1 v6, ys_tryl]
                          obtain ⟨s1, s2⟩ := hh_exports (fu := fu) (u := v) (l := l7) (B := B) (nf := F.length) (nt := l4.length) (nm := l5.length) (ng := l6.length) hfu z7 ((bv 14).trans b7) (yi_keep c7 fun k c h => by
                            obtain ⟨h1, h2, h3, h4⟩ := h
                            refine ⟨?_, ?_, ?_, ?_⟩
                            · rw [d2.2.2.1 25 (by decide)]; exact h1
                            · rw [d2.2.2.1 26 (by decide)]; exact h2
                            · rw [d2.2.2.1 24 (by decide)]; exact h3
                            · rw [d2.2.2.2 7 (by decide)]; exact h4) (yX_all (fun _ _ _ _ hl h => by
                            have := yp_exp_b h
                            exact ⟨by omega, this.2⟩) m7) ((d2.2.2.1 1 (by decide)).trans hB) ((bv 10).trans b3) ((bv 11).trans b4) ((bv 12).trans b5) ((bv 13).trans b6) ⟨z3, by omega, by omega, z6⟩
                          by_cases v7 : ∀ (k : Nat) a, l7[k]? = some a → yv_exp B l7 F.length l4.length l5.length l6.length k a
                          · rw [s1 v7, ys_tryl]
                            obtain ⟨w1, w2⟩ := hh_segments (fu := fu) (u := v) (l := l9) (nf := F.length) (nt := l4.length) (nm := l5.length) (nd := l11.length) hfu z9 ((bv 15).trans b9) ((bv 16).trans b11) ((bv 10).trans b3) ((bv 11).trans b4) ((bv 12).trans b5) ⟨z3, l4b, l5b, z11⟩ (yi_keep c9 fun k c h => by
                              obtain ⟨s, m, h1, h2, h3, h4, h5, h6, h7⟩ := h
                              refine ⟨s, m, ?_, ?_, ?_, fun i x hx => ?_, (bv 9).trans h5, h6, h7⟩
                              · rw [d2.2.2.1 28 (by decide)]; exact h1
                              · rw [d2.2.2.1 29 (by decide)]; exact h2
                              · rw [d2.2.2.2 8 (by decide)]; exact h3
                              · rw [d2.2.2.1 11 (by decide)]; exact h4 i x hx)
                            by_cases v9 : yv_el F.length l4.length l9 ∧ (l11.length = 0 ∨ l5.length = 1)
                            · rw [w1 v9, ys_tryl]
                              exact ⟨fun _ => ⟨v, rfl, d2, d3⟩, fun h => absurd ⟨v1, ⟨z3, vf.1⟩, v4, v5, ⟨z6, v6⟩, ⟨z7, v7⟩, vf.2, v9.1, z10, z11, v9.2⟩ h⟩
                            · rw [w2 v9, ys_tryr]
                              exact bad2 fun h => v9 ⟨h.2.2.2.2.2.2.2.1, h.2.2.2.2.2.2.2.2.2.2⟩
                          · rw [s2 v7, ys_tryr]
                            exact bad2 fun h => v7 h.2.2.2.2.2.1.2
                        · rw [r2 v6, ys_tryr]
                          exact bad2 fun h => v6 h.2.2.2.2.1.2
                      · rw [q2 v5, ys_tryr]
                        exact bad2 fun h => v5 h.2.2.2.1
                    · rw [p2 v4, ys_tryr]
                      exact bad2 fun h => v4 h.2.2.1
                  · rw [f2 vf, ys_tryr]
                    exact bad2 fun h => vf ⟨h.2.1.2, h.2.2.2.2.2.2.1⟩
                · rw [t2 v1, ys_tryr]
                  exact bad fun h => v1 h.1
              · rw [if_neg (fun z => z10 (e10.mp z))]
                exact bad fun h => z10 h.2.2.2.2.2.2.2.2.1
            · rw [if_pos ((g64 _ L11).mpr z11)]
              exact bad fun h => z11 h.2.2.2.2.2.2.2.2.2.1
          · rw [if_pos ((g64 _ L9).mpr z9)]
            exact bad fun h => z9 h.2.2.2.2.2.2.2.1.1
        · rw [if_pos ((g64 _ L7).mpr z7)]
          exact bad fun h => z7 h.2.2.2.2.2.1.1
      · rw [if_pos ((g64 _ L6).mpr z6)]
        exact bad fun h => z6 h.2.2.2.2.1.1
    · rw [if_pos ((g64 _ L3).mpr z3)]
      exact bad fun h => z3 h.2.1.1
  · rw [if_pos ((g64 _ L1).mpr z1)]
    exact bad fun h => z1 h.1.1
end
