/-- a type's code in the class, out of the reference's; a target's -/
def yv_h (c : Nat) : Nat := if c < 20 then c else c + 2
def yv_t (t : Nat) : Nat := if t < 2 then t else t + 1
theorem yv_ht {t : Nat} : 16 + 2 * yv_t t = yv_h (16 + 2 * t) := by
  unfold yv_t yv_h
  by_cases h : t < 2
  · rw [if_pos h, if_pos (by omega)]
  · rw [if_neg h, if_neg (by omega)]; omega
theorem yv_ht1 {t : Nat} : 16 + 2 * yv_t t + 1 = yv_h (16 + 2 * t + 1) := by
  unfold yv_t yv_h
  by_cases h : t < 2
  · rw [if_pos h, if_pos (by omega)]
  · rw [if_neg h, if_neg (by omega)]; omega
/-- a long that is not below 0, cut to 64 -/
def yc_64 (v : Int64) : Nat := if (64 : Int64) < v then 64 else v.toInt.toNat
theorem yc_lt {v : Int64} (h : 0 ≤ v) : yc_64 v ≤ 64 := by
  unfold yc_64
  split
  · exact Nat.le_refl _
  · next h1 =>
    rw [yl_nl, Int64.le_iff_toInt_le] at h1
    have : (64 : Int64).toInt = 64 := rfl
    omega
theorem yc_of {v : Int64} (h : 0 ≤ v) (h2 : ¬ (64 : Int64) < v) : v = lN (yc_64 v) := by
  obtain ⟨k, hk, rfl⟩ := pk_lOf (x := v) (yl_nl.mpr h)
  unfold yc_64
  rw [if_neg h2, pk_lT hk]
  rfl
theorem yc_h {v : Int64} (h : 0 ≤ v) : (if (64 : Int64) < v then (64 : Int64) else v).toInt32 = nI (yc_64 v) := by
  by_cases h2 : (64 : Int64) < v
  · unfold yc_64
    rw [if_pos h2, if_pos h2]; rfl
  · rw [if_neg h2]
    conv => lhs; rw [yc_of h h2]
    exact lN_i _
/-- a target -/
def yp_T (B : Nat → Int32) (lim p : Nat) : (Nat × Nat) ⊕ Nat :=
  yp_then (yp_peek B lim p) fun b q => if b = 109 then .inl (0, q + 1) else if b = 108 then .inl (1, q + 1) else yp_then (yp_S B lim 33 q) fun v q => if 0 ≤ v then .inl (2 + yc_64 v, q) else .inr 0
section
variable {α β : Type} {B : Nat → Int32} {u v : xk_St} {lim p q fu : Nat} {e : Int32}
theorem yh_mapped {c : β → α} {o : Option ((α ⊕ Nat) × xk_St)} {s : (β × Nat) ⊕ Nat} (h : yh_R u lim p o (yp_map c s)) : (∃ b q, s = .inl (b, q) ∧ p ≤ q ∧ q ≤ lim ∧ o = some (.inl (c b), xs_I u 17 (nI q))) ∨ ∃ k q, s = .inr k ∧ q ≤ lim ∧ o = some (.inr k, xs_I u 17 (nI q)) := by
  rcases s with ⟨b, q'⟩ | k
  · rcases h with ⟨a, q, h1, h2, h3, h4⟩ | ⟨k, q, h1, h2, h3⟩
    · cases h1
      exact Or.inl ⟨b, q', rfl, h2, h3, h4⟩
    · cases h1
  · rcases h with ⟨a, q, h1, h2, h3, h4⟩ | ⟨k', q, h1, h2, h3⟩
    · cases h1
    · cases h1
      exact Or.inr ⟨k, q, rfl, h2, h3⟩
theorem yp_map_then {γ : Type} {c : β → γ} {m : (α × Nat) ⊕ Nat} {g : α → Nat → (β × Nat) ⊕ Nat} : yp_map c (yp_then m g) = yp_then m fun a q => yp_map c (g a q) := by
  rcases m with ⟨a, q⟩ | k <;> rfl
theorem yp_map_ite {c : α → β} {P : Prop} [Decidable P] {s t : (α × Nat) ⊕ Nat} : yp_map c (if P then s else t) = if P then yp_map c s else yp_map c t := by
  split <;> rfl
theorem yp_map_l {c : α → β} {a : α} {q : Nat} : yp_map c (.inl (a, q)) = .inl (c a, q) := rfl
theorem yp_map_r {c : α → β} {k : Nat} : yp_map c (.inr k : (α × Nat) ⊕ Nat) = .inr k := rfl
/-- the class, through a call whose result is changed -/
theorem yh_tryM {γ : Type} {o : Option ((β ⊕ Nat) × xk_St)} {c : γ → β} {m : (γ × Nat) ⊕ Nat} {f : β → xk_St → Option ((α ⊕ Nat) × xk_St)} {g : γ → Nat → (α × Nat) ⊕ Nat} (h : yh_R u lim p o (yp_map c m)) (h2 : ∀ a q, m = .inl (a, q) → p ≤ q → q ≤ lim → yh_R u lim q (f (c a) (xs_I u 17 (nI q))) (g a q)) : yh_R u lim p (xs_try o f) (yp_then m g) := by
  rcases yh_mapped h with ⟨a, q, rfl, e2, e3, rfl⟩ | ⟨k, q, rfl, e2, rfl⟩
  · exact yh_le e2 (h2 a q rfl e2 e3)
  · exact Or.inr ⟨k, q, rfl, e2, rfl⟩
theorem ym_mapped {c : β → α} {o : Option (α × xk_St)} {s : (β × Nat) ⊕ Nat} (h : ym_R B u lim p o (yp_map c s)) : (∃ b q, s = .inl (b, q) ∧ p ≤ q ∧ q ≤ lim ∧ o = some (c b, xs_I u 4 (nI q))) ∨ ∃ k r v q, s = .inr k ∧ o = some (r, v) ∧ ym_st B lim q v ∧ v.1 6 = ym_c k := by
  rcases s with ⟨b, q'⟩ | k
  · rcases h with ⟨a, q, h1, h2, h3, h4⟩ | ⟨k, r, v, q, h1, h2⟩
    · cases h1
      exact Or.inl ⟨b, q', rfl, h2, h3, h4⟩
    · cases h1
  · rcases h with ⟨a, q, h1, h2, h3, h4⟩ | ⟨k', r, v, q, h1, h2⟩
    · cases h1
    · cases h1
      exact Or.inr ⟨k, r, v, q, rfl, h2⟩
theorem ym_seqM {γ : Type} {o : Option (β × xk_St)} {c : γ → β} {m : (γ × Nat) ⊕ Nat} {f : β → xk_St → Option (α × xk_St)} {g : γ → Nat → (α × Nat) ⊕ Nat} (h : ym_R B u lim p o (yp_map c m)) (h2 : ∀ a q, m = .inl (a, q) → p ≤ q → q ≤ lim → ym_R B u lim q (f (c a) (xs_I u 4 (nI q))) (g a q)) (h3 : ∀ k r v q, ym_st B lim q v → v.1 6 = ym_c k → ym_X B lim (ym_c k) (f r v)) : ym_R B u lim p (xs_seq o f) (yp_then m g) := by
  rcases ym_mapped h with ⟨a, q, rfl, e2, e3, rfl⟩ | ⟨k, r, v, q, rfl, rfl, e2, e3⟩
  · exact ym_le e2 (h2 a q rfl e2 e3)
  · obtain ⟨r', v', q', e4, e5, e6⟩ := h3 k r v q e2 e3
    exact Or.inr ⟨k, r', v', q', rfl, e4, e5, e6⟩
theorem yp_map_id {s : (α × Nat) ⊕ Nat} : yp_map (fun a => a) s = s := by
  rcases s with ⟨a, q⟩ | k <;> rfl
/-- the class's flag, expected byte -/
def yp_flag (B : Nat → Int32) (lim p : Nat) : (Nat × Nat) ⊕ Nat := yp_then (yp_byte B lim p) fun b q => if b ≤ 1 then .inl (b.toNatClampNeg, q) else .inr 0
theorem yp_bb {b : Int32} (h : yp_byte B lim p = .inl (b, q)) : (∃ j : Nat, j < 256 ∧ b = nI j) ∧ q = p + 1 ∧ p < lim := by
  unfold yp_byte at h
  by_cases hc : lim ≤ p
  · rw [if_pos hc] at h; cases h
  · rw [if_neg hc] at h
    cases h
    exact ⟨yb_n B p, rfl, by omega⟩
theorem yp_bn {b : Int32} (h : yp_byte B lim p = .inl (b, q)) : nI b.toNatClampNeg = b := by
  obtain ⟨⟨j, hj, rfl⟩, -⟩ := yp_bb h
  rw [nI_clamp (by omega)]
theorem yp_fb {c : Nat} (h : yp_flag B lim p = .inl (c, q)) : c ≤ 1 ∧ q = p + 1 ∧ p < lim := by
  unfold yp_flag at h
  generalize hs : yp_byte B lim p = s at h
  rcases s with ⟨b, q'⟩ | k
  · obtain ⟨⟨j, hj, rfl⟩, h1, h2⟩ := yp_bb hs
    simp only [yp_then] at h
    by_cases hc : nI j ≤ 1
    · rw [if_pos hc, nI_clamp (by omega)] at h
      have := (nI_leI (a := j) (b := 1) (by omega) (by decide)).mp hc
      cases h
      exact ⟨this, h1, h2⟩
    · rw [if_neg hc] at h; cases h
  · cases h
def yp_want (w : Int32) (B : Nat → Int32) (lim p : Nat) : (Unit × Nat) ⊕ Nat := yp_then (yp_byte B lim p) fun b q => if b = w then .inl ((), q) else .inr 0
theorem hh_flag (h : yh_st B lim p u) : yh_R u lim p (fm_Reader_readFlag u) (yp_map nI (yp_flag B lim p)) := by
  unfold fm_Reader_readFlag yp_flag
  rw [yp_map_then]
  refine yh_try (hh_byte h) fun a q hm h1 h2 => ?_
  rw [yp_map_ite, yp_map_l, yp_bn hm]
  exact yh_ite (fun _ => yh_ok (Nat.le_refl _) h2) (fun _ => yh_no h2)
theorem hh_want {w : Int32} (h : yh_st B lim p u) : yh_R u lim p (fm_Reader_expect w u) (yp_want w B lim p) := by
  unfold fm_Reader_expect yp_want
  refine yh_try (hh_byte h) fun a q hm h1 h2 => ?_
  exact yh_ite (fun _ => yh_ok (Nat.le_refl _) h2) (fun _ => yh_no h2)
theorem mx_flag (he : ¬ e = 0) (h : ym_st B lim q v) (h6 : v.1 6 = e) : ym_X B lim e (fm_Model_flag v) := by
  unfold fm_Model_flag
  refine yx_seq (mx_one he h h6) fun r v q h h6 => yx_ite (fun _ => yx_some h h6) fun _ => ?_
  exact yx_seq (mx_fail he h h6) fun r v q h h6 => yx_some h h6
theorem mx_want {w : Int32} (he : ¬ e = 0) (h : ym_st B lim q v) (h6 : v.1 6 = e) : ym_X B lim e (fm_Model_needs w v) := by
  unfold fm_Model_needs
  refine yx_seq (mx_one he h h6) fun r v q h h6 => yx_ite (fun _ => yx_some h h6) fun _ => ?_
  exact yx_seq (mx_fail he h h6) fun r v q h h6 => yx_some h h6
theorem mm_flag (h : ym_st B lim p u) (h6 : u.1 6 = 0) : ym_R B u lim p (fm_Model_flag u) (yp_map nI (yp_flag B lim p)) := by
  unfold fm_Model_flag yp_flag
  rw [yp_map_then]
  refine ym_seq (mm_one h h6) (fun a q hm h1 h2 => ?_) fun k r v q h h6 => ?_
  · rw [yp_map_ite, yp_map_l, yp_bn hm]
    refine ym_ite (fun _ => ym_ok (Nat.le_refl _) h2) fun _ => ?_
    exact ym_no (yx_seq (mm_fail (ym_mv h h2) h6) fun r v q h h6 => yx_some h h6)
  · refine yx_ite (fun _ => yx_some h h6) fun _ => ?_
    exact yx_seq (mx_fail ym_c0 h h6) fun r v q h h6 => yx_some h h6
theorem mm_want {w : Int32} (h : ym_st B lim p u) (h6 : u.1 6 = 0) : ym_R B u lim p (fm_Model_needs w u) (yp_want w B lim p) := by
  unfold fm_Model_needs yp_want
  refine ym_seq (mm_one h h6) (fun a q hm h1 h2 => ?_) fun k r v q h h6 => ?_
  · refine ym_ite (fun _ => ym_ok (Nat.le_refl _) h2) fun _ => ?_
    exact ym_no (yx_seq (mm_fail (ym_mv h h2) h6) fun r v q h h6 => yx_some h h6)
  · refine yx_ite (fun _ => yx_some h h6) fun _ => ?_
    exact yx_seq (mx_fail ym_c0 h h6) fun r v q h h6 => yx_some h h6
/-- numbers, with a fault before -/
theorem mx_N (hfu : 20 ≤ fu) (he : ¬ e = 0) (h : ym_st B lim q v) (h6 : v.1 6 = e) : ym_X B lim e (fm_Model_number fu v) := by
  rw [mx_num hfu (by rw [h6]; exact he)]
  exact yx_some h h6
theorem mx_SX {w : Int32} (hfu : 20 ≤ fu) (he : ¬ e = 0) (h : ym_st B lim q v) (h6 : v.1 6 = e) : ym_X B lim e (fm_Model_signed fu w v) := by
  rw [mx_S hfu (by rw [h6]; exact he)]
  exact yx_some h h6
theorem mx_57 {x : Int64} (h : ym_st B lim q v) (h6 : v.1 6 = e) : ym_X B lim e (jb_Model_target_57 fu x v) := by
  unfold jb_Model_target_57
  exact yx_ite (fun _ => yx_ite (fun _ => yx_some h h6) fun _ => yx_some h h6) fun _ => yx_some h h6
theorem mx_t17 {b : Int32} (hq : q + 1 ≤ lim) (h : ym_st B lim q v) (h6 : v.1 6 = e) : ym_X B lim e (jb_Model_target_17 fu b v) := by
  unfold jb_Model_target_17
  have h' : ym_st B lim (q + 1) (xs_I v 4 (v.1 4 + 1)) := by
    rw [h.2.1, nI_1]; exact ym_mv h hq
  exact yx_ite (fun _ => yx_some h' h6) fun _ => yx_some h' h6
/-- what lies ahead, when it is there -/
theorem yb_ah {b : Int32} (hb : ¬ b = -1) (h : (if lim ≤ p then -1 else yb_b B p) = b) : p + 1 ≤ lim ∧ yb_b B p = b := by
  by_cases hc : lim ≤ p
  · rw [if_pos hc] at h; exact absurd h.symm hb
  · rw [if_neg hc] at h; exact ⟨by omega, h⟩
theorem mx_T (hfu : 20 ≤ fu) (he : ¬ e = 0) (h : ym_st B lim q v) (h6 : v.1 6 = e) : ym_X B lim e (fm_Model_target fu v) := by
  unfold fm_Model_target
  rw [mm_ahead h]
  refine yx_ite (fun hb => ?_) fun _ => yx_ite (fun hb => ?_) fun _ => ?_
  · exact mx_t17 (yb_ah (by decide) hb).1 h h6
  · exact mx_t17 (yb_ah (by decide) hb).1 h h6
  · refine yx_seq (mx_SX hfu he h h6) fun r v q h h6 => yx_ite (fun _ => mx_57 h h6) fun _ => ?_
    exact yx_seq (mx_fail he h h6) fun r v q h h6 => mx_57 h h6
theorem hh_T (hfu : 20 ≤ fu) (h : yh_st B lim p u) : yh_R u lim p (fm_Reader_readTarget fu u) (yp_map (fun t => nI (yv_t t)) (yp_T B lim p)) := by
  unfold fm_Reader_readTarget yp_T
  rw [yp_map_then]
  have hp := hh_peek h
  rcases hp with ⟨a, q, e1, e2, e3, e4⟩ | ⟨k, q, e1, e2, e3⟩
  · rw [e1, e4]
    have hst := yh_mv h e3
    have e17 : (xs_I u 17 (nI q)).1 17 + 1 = nI (q + 1) := by rw [ys_Ig, nI_1]
    have hq1 : q + 1 ≤ lim := by
      unfold yp_peek at e1
      by_cases hc : lim ≤ p
      · rw [if_pos hc] at e1; cases e1
      · rw [if_neg hc] at e1; cases e1; omega
    refine yh_base (x := nI q) ?_
    refine yh_le e2 ?_
    show yh_R (xs_I u 17 (nI q)) lim q (if a = 109 then _ else _) (yp_map _ (if a = 109 then _ else _))
    rw [yp_map_ite, yp_map_ite, yp_map_then, yp_map_l, yp_map_l]
    refine yh_ite (fun ha => ?_) fun ha => yh_ite (fun ha => ?_) fun ha2 => ?_
    · unfold jb_Reader_readTarget_17
      simp only [xs_let]
      rw [if_pos ha, e17]
      exact yh_ok (Nat.le_succ _) hq1
    · unfold jb_Reader_readTarget_17
      simp only [xs_let]
      rw [if_neg (by rw [ha]; decide), e17]
      exact yh_ok (Nat.le_succ _) hq1
    · refine yh_try (hh_S (w := 33) (by decide) hfu hst) fun x q hm h1 h2 => ?_
      rw [yp_map_ite]
      refine yh_ite (fun hx => ?_) fun _ => yh_no h2
      rw [yc_h hx, yp_map_l]
      have : (3 : Int32) + nI (yc_64 x) = nI (yv_t (2 + yc_64 x)) := by
        unfold yv_t
        rw [if_neg (by omega), show (3 : Int32) = nI 3 from rfl, nI_add]
        congr 1; omega
      rw [this]
      exact yh_ok (Nat.le_refl _) h2
  · rw [e1, e3]
    exact Or.inr ⟨k, q, rfl, e2, rfl⟩
theorem mm_57 {x : Int64} (h : ym_st B lim q u) (hx : 0 ≤ x) : jb_Model_target_57 fu x u = some (nI (2 + yc_64 x), u) := by
  unfold jb_Model_target_57
  by_cases h2 : (64 : Int64) < x
  · rw [if_neg (yl_nle.mpr h2)]
    unfold yc_64
    rw [if_pos h2]; rfl
  · rw [if_pos (yl_nl.mp h2), if_pos hx]
    conv => lhs; rw [yc_of hx h2]
    rw [lN_i, show (2 : Int32) = nI 2 from rfl, nI_add]
theorem mm_T (hfu : 20 ≤ fu) (h : ym_st B lim p u) (h6 : u.1 6 = 0) : ym_R B u lim p (fm_Model_target fu u) (yp_map nI (yp_T B lim p)) := by
  unfold fm_Model_target yp_T
  rw [mm_ahead h, yp_map_then, ys_seq]
  unfold yp_peek
  by_cases hc : lim ≤ p
  · rw [if_pos hc, if_pos hc, if_neg (by decide), if_neg (by decide)]
    have hs : yp_S B lim 33 p = .inr 0 := by
      unfold yp_S yp_Sg
      rw [if_neg (by decide), if_pos hc]
    rcases mm_S (w := 33) (fu := fu) (by decide) hfu h h6 with ⟨a, q, e1, _⟩ | ⟨k, r, v, q, e1, e2, e3, e4⟩
    · rw [hs] at e1; cases e1
    · rw [hs] at e1
      cases e1
      rw [show (33 : Int32) = nI 33 from rfl, e2]
      refine ym_no ?_
      refine yx_ite (fun _ => mx_57 e3 e4) fun _ => ?_
      exact yx_seq (mx_fail ym_c0 e3 e4) fun r v q h h6 => mx_57 h h6
  · rw [if_neg hc, if_neg hc]
    have hq1 : p + 1 ≤ lim := by omega
    have e17 : u.1 4 + 1 = nI (p + 1) := by rw [h.2.1, nI_1]
    show ym_R B u lim p _ (yp_map nI (if yb_b B p = 109 then _ else _))
    rw [yp_map_ite, yp_map_ite, yp_map_then, yp_map_l, yp_map_l]
    refine ym_ite (fun ha => ?_) fun ha => ym_ite (fun ha => ?_) fun ha2 => ?_
    · unfold jb_Model_target_17
      simp only [xs_let]
      rw [if_pos ha, e17]
      exact ym_ok (Nat.le_succ _) hq1
    · unfold jb_Model_target_17
      simp only [xs_let]
      rw [if_neg (by rw [ha]; decide), e17]
      exact ym_ok (Nat.le_succ _) hq1
    · refine ym_seq (mm_S (w := 33) (by decide) hfu h h6) (fun x q hm h1 h2 => ?_) fun k r v q h h6 => ?_
      · rw [yp_map_ite]
        refine ym_ite (fun hx => ?_) fun _ => ?_
        · rw [mm_57 (ym_mv h h2) hx, yp_map_l]
          exact ym_ok (Nat.le_refl _) h2
        · exact ym_no (yx_seq (mm_fail (ym_mv h h2) h6) fun r v q h h6 => mx_57 h h6)
      · refine yx_ite (fun _ => mx_57 h h6) fun _ => ?_
        exact yx_seq (mx_fail ym_c0 h h6) fun r v q h h6 => mx_57 h h6
end
