section
variable {α β γ δ : Type} {B : Nat → Int32} {u v w : xk_St} {L lim p q fu D len : Nat} {e : Int32} {T : List (Nat × List Nat × List Nat)} {S : Nat → Option (Nat × Nat)}
/-- limits that may be: of a table (64), of a memory (16) -/
def yv_lim (m : Nat) (l : List (Nat × Option Nat)) : Prop := l.length ≤ 1 ∧ ∀ a, l[0]? = some a → a.1 ≤ m ∧ ∀ y, a.2 = some y → a.1 ≤ y
def yc_least (l : List (Nat × Option Nat)) : Nat := match l[0]? with
  | none => 0
  | some a => a.1
/-- the most pages -/
def yc_most (l : List (Nat × Option Nat)) : Nat := match l[0]? with
  | none => 0
  | some a => match a.2 with
    | none => 16
    | some y => if y ≤ 16 then y else 16
theorem yl_yn {m : Option Nat} : (yl_y m = -1 ↔ m = none) ∨ (∃ y, m = some y ∧ 2 ^ 32 ≤ y) := by
  cases m with
  | none => exact Or.inl ⟨fun _ => rfl, fun _ => rfl⟩
  | some y =>
    by_cases h : 2 ^ 32 ≤ y
    · exact Or.inr ⟨y, rfl, h⟩
    · refine Or.inl ⟨fun z => ?_, fun z => by cases z⟩
      have z : lN y = -1 := z
      have := congrArg Int64.toInt z
      rw [pk_lT (by omega)] at this
      have h1 : (y : Int) = -1 := this
      omega
theorem yp_limits_b {a : Nat × Option Nat} (h : yp_limits B lim p = .inl (a, q)) : a.1 < 2 ^ 32 ∧ ∀ y, a.2 = some y → y < 2 ^ 32 := by
  obtain ⟨f, r, h1, h⟩ := yp_thenI h
  obtain ⟨n, r2, h2, h⟩ := yp_thenI h
  have := yp_Nb h2
  by_cases z : f = 1
  · rw [if_pos z] at h
    obtain ⟨m, r3, h3, h⟩ := yp_thenI h
    have := yp_Nb h3
    cases h
    exact ⟨by omega, fun y hy => by cases hy; omega⟩
  · rw [if_neg z] at h
    cases h
    exact ⟨by omega, fun y hy => by cases hy⟩
theorem mk_limits {a : Nat × Option Nat} (hfu : 20 ≤ fu) (h : ym_st B lim p u) (h6 : u.1 6 = 0) (e : yp_limits B lim p = .inl (a, q)) : ∃ v, fm_Model_limits fu u = some ((), v) ∧ ym_st B lim q v ∧ v.1 6 = 0 ∧ v.2.1 0 = lN a.1 ∧ v.2.1 1 = yl_y a.2 ∧ yf_fr [4, 6] [0, 1] [] [] u v := by
  obtain ⟨b, v, e1, e2, e3, e4⟩ := zC_g (zJ_fr (mm_limits hfu h h6) yf_fm_Model_limits) e
  exact ⟨v, e1, e2, e3, e4.1.1, e4.1.2, e4.2⟩
/-- the check of limits, as the reference has it -/
theorem yv_limC {m : Nat} {a : Nat × Option Nat} (hm : m < 2 ^ 31) (ha : a.1 < 2 ^ 32) (hy : ∀ y, a.2 = some y → y < 2 ^ 32) : ((a.1 ≤ m ∧ ∀ y, a.2 = some y → a.1 ≤ y) ↔ ¬ lN m < lN a.1 ∧ (yl_y a.2 = -1 ∨ lN a.1 ≤ yl_y a.2)) := by
  have h1 : ¬ lN m < lN a.1 ↔ a.1 ≤ m := by
    rw [pk_lLT (by omega) (by omega)]; omega
  rw [h1]
  refine and_congr Iff.rfl ?_
  cases h2 : a.2 with
  | none => exact ⟨fun _ => Or.inl rfl, fun _ y hy => by cases hy⟩
  | some y =>
    have hyb := hy y h2
    have h3 : lN a.1 ≤ lN y ↔ a.1 ≤ y := pk_lLE (by omega) (by omega)
    have h4 : ¬ lN y = -1 := fun z => by
      have := congrArg Int64.toInt z
      rw [pk_lT (by omega)] at this
      have h1 : (y : Int) = -1 := this
      omega
    show (∀ z, some y = some z → a.1 ≤ z) ↔ (lN y = -1 ∨ lN a.1 ≤ lN y)
    rw [h3]
    exact ⟨fun h => Or.inr (h y rfl), fun h z hz => by cases hz; exact h.resolve_left h4⟩
/-- the memory is taken down -/
theorem mm_mem {l : List (Nat × Option Nat)} (hfu : 100 ≤ fu) (hX : yX B (yp_limits B) (S 5) l) (hB : yB B len S u) (h7 : u.1 7 = 0) :
    ∃ v, jb_Model_tableAndMemory_133 fu u = some ((), v) ∧ v.1 6 = 0 ∧ yf_fr [4, 5, 6, 7, 15, 16, 17] [0, 1] [] [] u v ∧ ((yv_lim 16 l ∧ v.1 7 = 0 ∧ v.1 15 = nI l.length ∧ v.1 16 = nI (yc_least l) ∧ v.1 17 = nI (yc_most l)) ∨ (¬ yv_lim 16 l ∧ v.1 7 = 1)) := by
  unfold jb_Model_tableAndMemory_133
  rw [if_pos h7]
  obtain ⟨w, q, e, r1, r2, r3, r4, r5⟩ := mm_rowOf (fu := fu) (id := 5) hfu (by decide) (fun _ => yp_limits_eats') (fun _ _ _ h => yl_limits h) hX hB h7
  have r1' : fm_Model_rowOf fu 5 u = _ := r1
  rw [r1', ys_seq]
  have wfr : yf_fr [4, 5, 6, 7, 15, 16, 17] [0, 1] [] [] u w := yf_mono r2 (by decide)
  have w6 : w.1 6 = 0 := (r2.1 6 (by decide)).trans hB.2.2.2.2.2
  unfold jb_Model_tableAndMemory_155
  simp only [xs_let, if_true, true_or, or_true]
  have hfr0 : yf_fr [4, 5, 6, 7, 15, 16, 17] [0, 1] [] [] u (xs_I (xs_I (xs_I w 15 0) 16 0) 17 0) := yf_I (yf_I (yf_I wfr (by decide)) (by decide)) (by decide)
  by_cases h64 : l.length ≤ 64
  · rw [if_pos h64] at r3 ⊢
    by_cases h0 : l.length = 0
    · have hl : l = [] := List.length_eq_zero_iff.mp h0
      subst hl
      rw [if_pos (show nI ([] : List (Nat × Option Nat)).length ≤ 0 from by decide), if_pos (show (xs_I (xs_I (xs_I w 15 0) 16 0) 17 0).1 15 = 0 from rfl)]
      exact ⟨_, rfl, w6, hfr0, Or.inl ⟨⟨by simp, fun a ha => by simp at ha⟩, r3, rfl, rfl, rfl⟩⟩
    · rw [if_neg (show ¬ nI l.length ≤ 0 from nI_ge (b := l.length) (a := 0) (by omega) (by omega)), if_neg (show ¬ (xs_I (xs_I (xs_I w 15 1) 16 0) 17 0).1 15 = 0 from by show ¬ (1 : Int32) = 0; decide), if_neg (by decide)]
      have hwst := r4 (by omega)
      -- where the section begins
      obtain ⟨p, e', hs, n, q', hn⟩ : ∃ p e', S 5 = some (p, e') ∧ ∃ n q', yp_N B len p = .inl (n, q') ∧ yp_rep (yp_limits B len) n q' = .inl (l, e') ∧ n = l.length := by
        cases hs : S 5 with
        | none => rw [hs] at hX; have : l = [] := hX; rw [this] at h0; exact absurd rfl h0
        | some x =>
          obtain ⟨p, e'⟩ := x
          rw [hs] at hX
          have hX : p ≤ e' ∧ e' ≤ 8192 ∧ yp_row B e' (yp_limits B e') p = .inl (l, e') := hX
          have hel := hB.2.2.2.2.1 5 (p, e') hs
          have hr := yl_row (B := B) (it := yp_limits B) (p := p) hel (fun p => yl_limits hel) _ hX.2.2
          obtain ⟨n, q', r1, r2⟩ := yp_thenI hr
          exact ⟨p, e', rfl, n, q', r1, r2, (yp_repl r2).symm⟩
      obtain ⟨hn1, hn2, hn3⟩ := hn
      have hS5 : w.2.2.1 2 5 = nI p := by
        rw [r2.2.2.1 2 (by decide)]
        have := hB.2.2.2.1 5 (by decide) (by decide)
        rw [hs] at this
        exact this
      have hnb := yp_Nb hn1
      have ha2 : (xs_I (xs_I (xs_I w 15 1) 16 0) 17 0).2.2.1 2 (5 : Int32).toNatClampNeg = nI p := hS5
      rw [ha2]
      have hst : ym_st B len p (xs_I (xs_I (xs_I (xs_I w 15 1) 16 0) 17 0) 4 (nI p)) := ⟨hwst.1, rfl, hwst.2.2.1, by omega, hwst.2.2.2.2⟩
      rw [if_pos (show (xs_I (xs_I (xs_I (xs_I w 15 1) 16 0) 17 0) 4 (nI p)).1 7 = 0 from r3), mk_N (by omega) hst w6 hn1, ys_seq]
      have hst2 := ym_mv hst hnb.2.2
      -- the first of them
      obtain ⟨m, hm⟩ : ∃ m, n = m + 1 := ⟨n - 1, by omega⟩
      rw [hm] at hn2
      unfold yp_rep at hn2
      obtain ⟨a, q2, p1, p2⟩ := yp_thenI hn2
      obtain ⟨l', q3, p3, p4⟩ := yp_thenI p2
      cases p4
      have hab := yp_limits_b p1
      have hfr1 : ∀ s, yf_fr [4, 5, 6, 7, 15, 16, 17] [0, 1] [] [] u (xs_I (xs_I (xs_I (xs_I (xs_I (xs_I w 15 1) 16 0) 17 0) 4 (nI p)) 4 (nI q')) 7 s) := fun s => yf_I (yf_I (yf_I (yf_I (yf_I (yf_I wfr (by decide)) (by decide)) (by decide)) (by decide)) (by decide)) (by decide)
      unfold jb_Model_tableAndMemory_202 jb_Model_tableAndMemory_207 jb_Model_tableAndMemory_256 jb_Model_tableAndMemory_260 jb_Model_tableAndMemory_261 jb_Model_tableAndMemory_296
      simp only [xs_let, if_true, true_or, or_true]
      obtain ⟨y, d1, d2, d3, d4, d5, d6⟩ := mk_limits (fu := fu) (u := xs_I (xs_I (xs_I (xs_I (xs_I (xs_I w 15 1) 16 0) 17 0) 4 (nI p)) 4 (nI q')) 7 0) (by omega) (ym_I7 hst2) w6 p1
      obtain ⟨z, f1, f2, f3, f4, f5, f6⟩ := mk_limits (fu := fu) (u := xs_I (xs_I (xs_I (xs_I (xs_I (xs_I w 15 1) 16 0) 17 0) 4 (nI p)) 4 (nI q')) 7 1) (by omega) (ym_I7 hst2) w6 p1
      rw [d1, f1, ys_seq, ys_seq]
      have yfr : ∀ s t k, yf_fr [4, 5, 6, 7, 15, 16, 17] [0, 1] [] [] u (xs_I (xs_I (xs_I y 7 s) 16 t) 17 k) := fun s t k => yf_I (yf_I (yf_I (yf_trans (hfr1 0) (yf_mono d6 (by decide))) (by decide)) (by decide)) (by decide)
      have zfr : ∀ s t k, yf_fr [4, 5, 6, 7, 15, 16, 17] [0, 1] [] [] u (xs_I (xs_I (xs_I z 7 s) 16 t) 17 k) := fun s t k => yf_I (yf_I (yf_I (yf_trans (hfr1 1) (yf_mono f6 (by decide))) (by decide)) (by decide)) (by decide)
      have hbad : ∀ (y : xk_St) (P : Prop), y.1 6 = 0 → (∀ s t k, yf_fr [4, 5, 6, 7, 15, 16, 17] [0, 1] [] [] u (xs_I (xs_I (xs_I y 7 s) 16 t) 17 k)) → ¬ P → ∃ v, (if (xs_I (xs_I y 7 1) 16 ((xs_I y 7 1).2.1 0).toInt32).2.1 1 = -1 then some ((), xs_I (xs_I (xs_I y 7 1) 16 ((xs_I y 7 1).2.1 0).toInt32) 17 16) else if (xs_I (xs_I y 7 1) 16 ((xs_I y 7 1).2.1 0).toInt32).2.1 1 ≤ 16 then some ((), xs_I (xs_I (xs_I y 7 1) 16 ((xs_I y 7 1).2.1 0).toInt32) 17 ((xs_I (xs_I y 7 1) 16 ((xs_I y 7 1).2.1 0).toInt32).2.1 1).toInt32) else some ((), xs_I (xs_I (xs_I y 7 1) 16 ((xs_I y 7 1).2.1 0).toInt32) 17 16)) = some ((), v) ∧ v.1 6 = 0 ∧ yf_fr [4, 5, 6, 7, 15, 16, 17] [0, 1] [] [] u v ∧ ((P ∧ v.1 7 = 0 ∧ v.1 15 = nI (a :: l').length ∧ v.1 16 = nI (yc_least (a :: l')) ∧ v.1 17 = nI (yc_most (a :: l'))) ∨ (¬ P ∧ v.1 7 = 1)) := fun y P y6 yf hP => by
        split
        · exact ⟨_, rfl, y6, yf _ _ _, Or.inr ⟨hP, rfl⟩⟩
        · split
          · exact ⟨_, rfl, y6, yf _ _ _, Or.inr ⟨hP, rfl⟩⟩
          · exact ⟨_, rfl, y6, yf _ _ _, Or.inr ⟨hP, rfl⟩⟩
      by_cases hn1' : n ≤ 1
      · rw [if_pos (show lN n ≤ 1 from (pk_lLE (b := 1) (by omega) (by decide)).mpr hn1'), if_pos (show y.1 7 = 0 from (d6.1 7 (by decide)).trans rfl), d4, d5]
        have hl' : l' = [] := by
          have := hn3
          rw [List.length_cons] at this
          exact List.length_eq_zero_iff.mp (by omega)
        have hiff : yv_lim 16 (a :: l') ↔ ¬ (16 : Int64) < lN a.1 ∧ (yl_y a.2 = -1 ∨ lN a.1 ≤ yl_y a.2) := by
          rw [show (16 : Int64) = lN 16 from rfl, ← yv_limC (by decide) hab.1 hab.2]
          constructor
          · intro h; exact h.2 a rfl
          · intro h
            refine ⟨by rw [hl']; exact Nat.le_refl _, fun b hb => ?_⟩
            have hb : some a = some b := hb
            cases hb; exact h
        by_cases k1 : (16 : Int64) < lN a.1
        · rw [if_pos k1]
          exact hbad y _ d3 yfr (fun z => (hiff.mp z).1 k1)
        · rw [if_neg k1]
          have hgood : (yl_y a.2 = -1 ∨ lN a.1 ≤ yl_y a.2) → ∃ v, (if (xs_I (xs_I y 7 0) 16 ((xs_I y 7 0).2.1 0).toInt32).2.1 1 = -1 then some ((), xs_I (xs_I (xs_I y 7 0) 16 ((xs_I y 7 0).2.1 0).toInt32) 17 16) else if (xs_I (xs_I y 7 0) 16 ((xs_I y 7 0).2.1 0).toInt32).2.1 1 ≤ 16 then some ((), xs_I (xs_I (xs_I y 7 0) 16 ((xs_I y 7 0).2.1 0).toInt32) 17 ((xs_I (xs_I y 7 0) 16 ((xs_I y 7 0).2.1 0).toInt32).2.1 1).toInt32) else some ((), xs_I (xs_I (xs_I y 7 0) 16 ((xs_I y 7 0).2.1 0).toInt32) 17 16)) = some ((), v) ∧ v.1 6 = 0 ∧ yf_fr [4, 5, 6, 7, 15, 16, 17] [0, 1] [] [] u v ∧ ((yv_lim 16 (a :: l') ∧ v.1 7 = 0 ∧ v.1 15 = nI (a :: l').length ∧ v.1 16 = nI (yc_least (a :: l')) ∧ v.1 17 = nI (yc_most (a :: l'))) ∨ (¬ yv_lim 16 (a :: l') ∧ v.1 7 = 1)) := fun hk => by
            have e15 : y.1 15 = nI (a :: l').length := by rw [d6.1 15 (by decide), hl']; rfl
            have e16 : ((xs_I y 7 0).2.1 0).toInt32 = nI a.1 := by
              show (y.2.1 0).toInt32 = _
              rw [d4, lN_i]
            rw [e16]
            have ey : (xs_I (xs_I y 7 0) 16 (nI a.1)).2.1 1 = yl_y a.2 := d5
            rw [ey]
            cases ha2 : a.2 with
            | none =>
              rw [if_pos (show yl_y none = -1 from rfl)]
              exact ⟨_, rfl, d3, yfr _ _ _, Or.inl ⟨hiff.mpr ⟨k1, hk⟩, rfl, e15, rfl, by
                show (16 : Int32) = nI (match a.2 with
                  | none => 16
                  | some y => if y ≤ 16 then y else 16)
                rw [ha2]; rfl⟩⟩
            | some y0 =>
              have hy0 := hab.2 y0 ha2
              have h4 : ¬ yl_y (some y0) = -1 := fun z => by
                have := congrArg Int64.toInt z
                rw [show yl_y (some y0) = lN y0 from rfl, pk_lT (by omega)] at this
                have h1 : (y0 : Int) = -1 := this
                omega
              rw [if_neg h4]
              have hmost : yc_most (a :: l') = if y0 ≤ 16 then y0 else 16 := by
                show (match a.2 with
                  | none => 16
                  | some y => if y ≤ 16 then y else 16) = _
                rw [ha2]
              by_cases h16 : y0 ≤ 16
              · rw [if_pos (show yl_y (some y0) ≤ 16 from (pk_lLE (b := 16) (by omega) (by decide)).mpr h16)]
                exact ⟨_, rfl, d3, yfr _ _ _, Or.inl ⟨hiff.mpr ⟨k1, hk⟩, rfl, e15, rfl, by rw [hmost, if_pos h16]; exact lN_i y0⟩⟩
              · rw [if_neg (show ¬ yl_y (some y0) ≤ 16 from fun z => h16 ((pk_lLE (b := 16) (by omega) (by decide)).mp z))]
                exact ⟨_, rfl, d3, yfr _ _ _, Or.inl ⟨hiff.mpr ⟨k1, hk⟩, rfl, e15, rfl, by rw [hmost, if_neg h16]; rfl⟩⟩
          by_cases k2 : yl_y a.2 = -1
          · rw [if_pos k2]
            exact hgood (Or.inl k2)
          · rw [if_neg k2]
            by_cases k3 : lN a.1 ≤ yl_y a.2
            · rw [if_pos k3]
              exact hgood (Or.inr k3)
            · rw [if_neg k3]
              exact hbad y _ d3 yfr (fun z => ((hiff.mp z).2).elim k2 k3)
      · rw [if_neg (show ¬ lN n ≤ 1 from fun z => hn1' ((pk_lLE (b := 1) (by omega) (by decide)).mp z)), if_neg (show ¬ z.1 7 = 0 from by rw [f6.1 7 (by decide), ys_Ig]; decide)]
        exact hbad z _ f3 zfr (fun h => by have := h.1; omega)
  · rw [if_neg h64] at r3 ⊢
    rw [if_pos (Int32.le_refl _), if_pos (show (xs_I (xs_I (xs_I w 15 0) 16 0) 17 0).1 15 = 0 from rfl)]
    exact ⟨_, rfl, w6, hfr0, Or.inr ⟨fun h => h64 (by have := h.1; omega), r3⟩⟩
end
