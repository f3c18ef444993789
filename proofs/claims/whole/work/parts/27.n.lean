section
variable {α β γ δ : Type} {B : Nat → Int32} {u v w : xk_St} {L lim p q fu D len : Nat} {e : Int32} {T : List (Nat × List Nat × List Nat)} {S : Nat → Option (Nat × Nat)}
/-- the table is taken down -/
theorem mm_tab {l : List (Nat × Option Nat)} (hfu : 100 ≤ fu) (hX : yX B (yp_tab B) (S 4) l) (hB : yB B len S u) (h7 : u.1 7 = 0) :
    ∃ v, fm_Model_tableAndMemory fu u = jb_Model_tableAndMemory_133 fu v ∧ v.1 6 = 0 ∧ yf_fr [4, 5, 6, 7, 14, 24] [0, 1] [] [] u v ∧ ((yv_lim 64 l ∧ v.1 7 = 0 ∧ v.1 14 = nI l.length ∧ v.1 24 = nI (yc_least l)) ∨ (¬ yv_lim 64 l ∧ v.1 7 = 1)) := by
  unfold fm_Model_tableAndMemory
  obtain ⟨w, q, e, r1, r2, r3, r4, r5⟩ := mm_rowOf (fu := fu) (id := 4) hfu (by decide) (fun _ => yp_tab_eats) (fun _ _ _ h => yl_tab h) hX hB h7
  have r1' : fm_Model_rowOf fu 4 u = _ := r1
  rw [r1', ys_seq]
  have wfr : yf_fr [4, 5, 6, 7, 14, 24] [0, 1] [] [] u w := yf_mono r2 (by decide)
  have w6 : w.1 6 = 0 := (r2.1 6 (by decide)).trans hB.2.2.2.2.2
  unfold jb_Model_tableAndMemory_14
  simp only [xs_let, if_true, true_or, or_true]
  have hfr0 : yf_fr [4, 5, 6, 7, 14, 24] [0, 1] [] [] u (xs_I (xs_I w 14 0) 24 0) := yf_I (yf_I wfr (by decide)) (by decide)
  by_cases h64 : l.length ≤ 64
  · rw [if_pos h64] at r3 ⊢
    by_cases h0 : l.length = 0
    · have hl : l = [] := List.length_eq_zero_iff.mp h0
      subst hl
      rw [if_pos (show nI ([] : List (Nat × Option Nat)).length ≤ 0 from by decide), if_pos (show (xs_I (xs_I w 14 0) 24 0).1 14 = 0 from rfl)]
      exact ⟨_, rfl, w6, hfr0, Or.inl ⟨⟨by simp, fun a ha => by simp at ha⟩, r3, rfl, rfl⟩⟩
    · rw [if_neg (show ¬ nI l.length ≤ 0 from nI_ge (b := l.length) (a := 0) (by omega) (by omega)), if_neg (show ¬ (xs_I (xs_I w 14 1) 24 0).1 14 = 0 from by show ¬ (1 : Int32) = 0; decide), if_neg (by decide)]
      have hwst := r4 (by omega)
      obtain ⟨p, e', hs, n, q', hn⟩ : ∃ p e', S 4 = some (p, e') ∧ ∃ n q', yp_N B len p = .inl (n, q') ∧ yp_rep (yp_tab B len) n q' = .inl (l, e') ∧ n = l.length := by
        cases hs : S 4 with
        | none => rw [hs] at hX; have : l = [] := hX; rw [this] at h0; exact absurd rfl h0
        | some x =>
          obtain ⟨p, e'⟩ := x
          rw [hs] at hX
          have hX : p ≤ e' ∧ e' ≤ 8192 ∧ yp_row B e' (yp_tab B e') p = .inl (l, e') := hX
          have hel := hB.2.2.2.2.1 4 (p, e') hs
          have hr := yl_row (B := B) (it := yp_tab B) (p := p) hel (fun p => yl_tab hel) _ hX.2.2
          obtain ⟨n, q', r1, r2⟩ := yp_thenI hr
          exact ⟨p, e', rfl, n, q', r1, r2, (yp_repl r2).symm⟩
      obtain ⟨hn1, hn2, hn3⟩ := hn
      have hS5 : w.2.2.1 2 4 = nI p := by
        rw [r2.2.2.1 2 (by decide)]
        have := hB.2.2.2.1 4 (by decide) (by decide)
        rw [hs] at this
        exact this
      have hnb := yp_Nb hn1
      have ha2 : (xs_I (xs_I w 14 1) 24 0).2.2.1 2 (4 : Int32).toNatClampNeg = nI p := hS5
      rw [ha2]
      have hst : ym_st B len p (xs_I (xs_I (xs_I w 14 1) 24 0) 4 (nI p)) := ⟨hwst.1, rfl, hwst.2.2.1, by omega, hwst.2.2.2.2⟩
      rw [if_pos (show (xs_I (xs_I (xs_I w 14 1) 24 0) 4 (nI p)).1 7 = 0 from r3), mk_N (by omega) hst w6 hn1, ys_seq]
      have hst2 := ym_mv hst hnb.2.2
      obtain ⟨m, hm⟩ : ∃ m, n = m + 1 := ⟨n - 1, by omega⟩
      rw [hm] at hn2
      unfold yp_rep at hn2
      obtain ⟨a, q2, p1, p2⟩ := yp_thenI hn2
      obtain ⟨l', q3, p3, p4⟩ := yp_thenI p2
      cases p4
      obtain ⟨a0, q4, p5, p6⟩ := yp_thenI p1
      have hab := yp_limits_b p6
      have hwe := yp_want_eats p5
      have hfr1 : ∀ s, yf_fr [4, 5, 6, 7, 14, 24] [0, 1] [] [] u (xs_I (xs_I (xs_I (xs_I (xs_I (xs_I w 14 1) 24 0) 4 (nI p)) 4 (nI q')) 7 s) 4 (nI q4)) := fun s => yf_I (yf_I (yf_I (yf_I (yf_I (yf_I wfr (by decide)) (by decide)) (by decide)) (by decide)) (by decide)) (by decide)
      unfold jb_Model_tableAndMemory_56 jb_Model_tableAndMemory_61 jb_Model_tableAndMemory_116 jb_Model_tableAndMemory_120 jb_Model_tableAndMemory_121
      simp only [xs_let, if_true, true_or, or_true]
      rw [mk_want (u := xs_I (xs_I (xs_I (xs_I (xs_I w 14 1) 24 0) 4 (nI p)) 4 (nI q')) 7 0) (ym_I7 hst2) w6 p5, mk_want (u := xs_I (xs_I (xs_I (xs_I (xs_I w 14 1) 24 0) 4 (nI p)) 4 (nI q')) 7 1) (ym_I7 hst2) w6 p5, ys_seq, ys_seq]
      obtain ⟨y, d1, d2, d3, d4, d5, d6⟩ := mk_limits (fu := fu) (u := xs_I (xs_I (xs_I (xs_I (xs_I (xs_I w 14 1) 24 0) 4 (nI p)) 4 (nI q')) 7 0) 4 (nI q4)) (by omega) (ym_mv (ym_I7 hst2) hwe.2) w6 p6
      obtain ⟨z, f1, f2, f3, f4, f5, f6⟩ := mk_limits (fu := fu) (u := xs_I (xs_I (xs_I (xs_I (xs_I (xs_I w 14 1) 24 0) 4 (nI p)) 4 (nI q')) 7 1) 4 (nI q4)) (by omega) (ym_mv (ym_I7 hst2) hwe.2) w6 p6
      rw [d1, f1, ys_seq, ys_seq]
      have yfr : ∀ s t, yf_fr [4, 5, 6, 7, 14, 24] [0, 1] [] [] u (xs_I (xs_I y 7 s) 24 t) := fun s t => yf_I (yf_I (yf_trans (hfr1 0) (yf_mono d6 (by decide))) (by decide)) (by decide)
      have zfr : ∀ s t, yf_fr [4, 5, 6, 7, 14, 24] [0, 1] [] [] u (xs_I (xs_I z 7 s) 24 t) := fun s t => yf_I (yf_I (yf_trans (hfr1 1) (yf_mono f6 (by decide))) (by decide)) (by decide)
      by_cases hn1' : n ≤ 1
      · rw [if_pos (show lN n ≤ 1 from (pk_lLE (b := 1) (by omega) (by decide)).mpr hn1'), if_pos (show y.1 7 = 0 from (d6.1 7 (by decide)).trans rfl), d4, d5]
        have hl' : l' = [] := by
          have := hn3
          rw [List.length_cons] at this
          exact List.length_eq_zero_iff.mp (by omega)
        have hiff : yv_lim 64 (a :: l') ↔ ¬ (64 : Int64) < lN a.1 ∧ (yl_y a.2 = -1 ∨ lN a.1 ≤ yl_y a.2) := by
          rw [show (64 : Int64) = lN 64 from rfl, ← yv_limC (by decide) hab.1 hab.2]
          constructor
          · intro h; exact h.2 a rfl
          · intro h
            refine ⟨by rw [hl']; exact Nat.le_refl _, fun b hb => ?_⟩
            have hb : some a = some b := hb
            cases hb; exact h
        by_cases k1 : (64 : Int64) < lN a.1
        · rw [if_pos k1]
          exact ⟨_, rfl, d3, yfr _ _, Or.inr ⟨fun z => (hiff.mp z).1 k1, rfl⟩⟩
        · rw [if_neg k1]
          have e15 : y.1 14 = nI (a :: l').length := by rw [d6.1 14 (by decide), hl']; rfl
          have e16 : ((xs_I y 7 0).2.1 0).toInt32 = nI a.1 := by
            show (y.2.1 0).toInt32 = _
            rw [d4, lN_i]
          by_cases k2 : yl_y a.2 = -1
          · rw [if_pos k2, e16]
            exact ⟨_, rfl, d3, yfr _ _, Or.inl ⟨hiff.mpr ⟨k1, Or.inl k2⟩, rfl, e15, rfl⟩⟩
          · rw [if_neg k2]
            by_cases k3 : lN a.1 ≤ yl_y a.2
            · rw [if_pos k3, e16]
              exact ⟨_, rfl, d3, yfr _ _, Or.inl ⟨hiff.mpr ⟨k1, Or.inr k3⟩, rfl, e15, rfl⟩⟩
            · rw [if_neg k3]
              exact ⟨_, rfl, d3, yfr _ _, Or.inr ⟨fun z => ((hiff.mp z).2).elim k2 k3, rfl⟩⟩
      · rw [if_neg (show ¬ lN n ≤ 1 from fun z => hn1' ((pk_lLE (b := 1) (by omega) (by decide)).mp z)), if_neg (show ¬ z.1 7 = 0 from by rw [f6.1 7 (by decide)]; show ¬ (1 : Int32) = 0; decide)]
        exact ⟨_, rfl, f3, zfr _ _, Or.inr ⟨fun h => by have := h.1; omega, rfl⟩⟩
  · rw [if_neg h64] at r3 ⊢
    rw [if_pos (Int32.le_refl _), if_pos (show (xs_I (xs_I w 14 0) 24 0).1 14 = 0 from rfl)]
    exact ⟨_, rfl, w6, hfr0, Or.inr ⟨fun h => h64 (by have := h.1; omega), r3⟩⟩
theorem mx_133 (h7 : u.1 7 = 1) : jb_Model_tableAndMemory_133 fu u = some ((), u) := by
  unfold jb_Model_tableAndMemory_133
  rw [if_neg (by rw [h7]; decide)]
end
