section
variable {α β γ δ : Type} {B : Nat → Int32} {u v w : xk_St} {lim p q fu : Nat} {e : Int32}
/-- a block's type: nothing, a value's type, or the number of a type -/
def yp_BT (B : Nat → Int32) (lim p : Nat) : ((Option Nat ⊕ Int64) × Nat) ⊕ Nat :=
  yp_then (yp_peek B lim p) fun b q => if b = 64 then .inl (.inl none, q + 1) else if b = 99 ∨ b = 100 ∨ b = 108 ∨ b = 109 ∨ b = 126 ∨ b = 127 then yp_then (yp_V B lim q) fun c q => .inl (.inl (some c), q) else yp_then (yp_S B lim 33 q) fun x q => if 0 ≤ x then .inl (.inr x, q) else .inr 0
def yb_h (t : Option Nat ⊕ Int64) : Nat := match t with
  | .inl none => 0
  | .inl (some c) => yv_h c
  | .inr x => 1024 + yc_64 x
def yb_m (t : Option Nat ⊕ Int64) : Int64 := match t with
  | .inl none => -1
  | .inl (some c) => -2 - lN c
  | .inr x => x
theorem yp_Vb {c : Nat} (h : yp_V B lim p = .inl (c, q)) : 0 < c ∧ c ≤ 149 := by
  unfold yp_V at h
  obtain ⟨b, r, h1, h2⟩ := yp_thenI h
  split at h2
  · obtain ⟨t, r', h3, h4⟩ := yp_thenI h2
    have := yp_Tb h3
    cases h4; omega
  · split at h2
    · obtain ⟨t, r', h3, h4⟩ := yp_thenI h2
      have := yp_Tb h3
      cases h4; omega
    · split at h2
      · cases h2; omega
      · split at h2
        · cases h2; omega
        · split at h2
          · cases h2; omega
          · split at h2
            · cases h2; omega
            · cases h2
theorem hh_BT (hfu : 20 ≤ fu) (h : yh_st B lim p u) : yh_R u lim p (fm_Reader_readBlockType fu u) (yp_map (fun t => nI (yb_h t)) (yp_BT B lim p)) := by
  unfold fm_Reader_readBlockType yp_BT
  rw [yp_map_then]
  refine yh_try (hh_peek h) fun b q hm h1 h2 => ?_
  obtain ⟨rfl, hq⟩ := yp_pk hm
  have hst := yh_mv h h2
  have e17 : (xs_I u 17 (nI q)).1 17 + 1 = nI (q + 1) := by rw [ys_Ig, nI_1]
  have h84 : yh_R u lim q (jb_Reader_readBlockType_84 fu (xs_I u 17 (nI q))) (yp_map (fun t => nI (yb_h t)) (yp_then (yp_V B lim q) fun c q => .inl (.inl (some c), q))) := by
    unfold jb_Reader_readBlockType_84
    rw [yp_map_then]
    exact yh_base (yh_tryM (hh_V hfu hst) fun c q _ h1 h2 => yh_ok (Nat.le_refl _) h2)
  simp only [yp_map_ite]
  refine yh_ite (fun _ => ?_) fun c0 => ?_
  · simp only [xs_let]
    rw [e17]
    exact yh_base (yh_ok (Nat.le_succ _) (by omega))
  by_cases c1 : b = 99
  · rw [if_pos c1, if_pos (by simp [c1])]; exact h84
  rw [if_neg c1]
  by_cases c2 : b = 100
  · rw [if_pos c2, if_pos (by simp [c2])]; exact h84
  rw [if_neg c2]
  by_cases c3 : b = 108
  · rw [if_pos c3, if_pos (by simp [c3])]; exact h84
  rw [if_neg c3]
  by_cases c4 : b = 109
  · rw [if_pos c4, if_pos (by simp [c4])]; exact h84
  rw [if_neg c4]
  by_cases c5 : b = 126
  · rw [if_pos c5, if_pos (by simp [c5])]; exact h84
  rw [if_neg c5]
  by_cases c6 : b = 127
  · rw [if_pos c6, if_pos (by simp [c6])]; exact h84
  rw [if_neg c6, if_neg (by simp [c1, c2, c3, c4, c5, c6]), yp_map_then]
  refine yh_base (yh_try (hh_S (w := 33) (by decide) hfu hst) fun x q _ h1 h2 => ?_)
  rw [yp_map_ite]
  refine yh_ite (fun hx => ?_) fun _ => yh_no h2
  rw [yc_h hx, show (1024 : Int32) = nI 1024 from rfl, nI_add]
  exact yh_ok (Nat.le_refl _) h2
theorem mx_BT (hfu : 20 ≤ fu) (he : ¬ e = 0) (h : ym_st B lim q v) (h6 : v.1 6 = e) : ym_X B lim e (fm_Model_blockTypeHere fu v) := by
  unfold fm_Model_blockTypeHere
  rw [mm_ahead h]
  simp only [ys_seq]
  refine yx_ite (fun hb => ?_) fun _ => ?_
  · have := (yb_ah (by decide) hb).1
    have h' : ym_st B lim (q + 1) (xs_I v 4 (v.1 4 + 1)) := by
      rw [h.2.1, nI_1]; exact ym_mv h this
    exact yx_let (yx_some h' h6)
  · obtain ⟨c, hc, -⟩ := mm_isT (u := v) (if lim ≤ q then -1 else yb_b B q)
    rw [hc]
    refine yx_ite (fun _ => ?_) fun _ => ?_
    · have := mx_SX (w := 33) hfu he h h6
      refine yx_seq (o := fm_Model_signed fu 33 v) (f := fun a5 u6 => if (0 : Int64) ≤ a5 then some (a5, u6) else xs_seq (fm_Model_fail (-1) u6) fun _ u7 => some (a5, u7)) this fun r v q h h6 => yx_ite (fun _ => yx_some h h6) fun _ => ?_
      exact yx_seq (mx_fail he h h6) fun r v q h h6 => yx_some h h6
    · exact yx_seq (o := fm_Model_valueType fu v) (f := fun a8 u9 => some ((-2 : Int64) - a8.toInt64, u9)) (mx_V hfu he h h6) fun r v q h h6 => yx_some h h6
theorem mm_BT (hfu : 20 ≤ fu) (h : ym_st B lim p u) (h6 : u.1 6 = 0) : ym_R B u lim p (fm_Model_blockTypeHere fu u) (yp_map yb_m (yp_BT B lim p)) := by
  unfold fm_Model_blockTypeHere yp_BT
  rw [mm_ahead h, yp_map_then, ys_seq]
  obtain ⟨c, hc, hi⟩ := mm_isT (u := u) (if lim ≤ p then -1 else yb_b B p)
  rw [hc, ys_seq]
  have hsg : ym_R B u lim p (xs_seq (fm_Model_signed fu (33 : Int32) u) fun a5 u6 => if (0 : Int64) ≤ a5 then (some (a5, u6)) else ((xs_seq (fm_Model_fail (-1 : Int32) u6) fun _ u7 => some (a5, u7)))) (yp_map yb_m (yp_then (yp_S B lim 33 p) fun x q => if 0 ≤ x then .inl (.inr x, q) else .inr 0)) := by
    rw [yp_map_then]
    refine ym_seq (mm_S (w := 33) (by decide) hfu h h6) (fun x q _ h1 h2 => ?_) fun k r v q h h6 => ?_
    · rw [yp_map_ite]
      refine ym_ite (fun _ => ym_ok (Nat.le_refl _) h2) fun _ => ?_
      exact ym_no (yx_seq (mm_fail (ym_mv h h2) h6) fun r v q h h6 => yx_some h h6)
    · refine yx_ite (fun _ => yx_some h h6) fun _ => ?_
      exact yx_seq (mx_fail ym_c0 h h6) fun r v q h h6 => yx_some h h6
  unfold yp_peek
  by_cases hl : lim ≤ p
  · simp only [if_pos hl] at hi ⊢
    rw [if_neg (by decide)]
    have hz : c = 0 := hi.mpr (by decide)
    show ym_R B u lim p (if c = 0 then _ else _) _
    rw [if_pos hz]
    have hs : yp_S B lim 33 p = .inr 0 := by
      unfold yp_S yp_Sg
      rw [if_neg (by decide), if_pos hl]
    rw [hs] at hsg
    exact hsg
  · simp only [if_neg hl] at hi ⊢
    have e17 : u.1 4 + 1 = nI (p + 1) := by rw [h.2.1, nI_1]
    show ym_R B u lim p _ (yp_map yb_m (if yb_b B p = 64 then _ else _))
    simp only [yp_map_ite]
    refine ym_ite (fun _ => ?_) fun c0 => ?_
    · simp only [xs_let]
      rw [e17]
      exact ym_ok (Nat.le_succ _) (by omega)
    show ym_R B u lim p (if c = 0 then _ else _) _
    by_cases hb : yb_b B p = 127 ∨ yb_b B p = 126 ∨ yb_b B p = 109 ∨ yb_b B p = 108 ∨ yb_b B p = 99 ∨ yb_b B p = 100
    · rw [if_neg (fun z => (hi.mp z) hb), if_pos (by rcases hb with z | z | z | z | z | z <;> simp [z]), yp_map_then]
      refine ym_seqM (mm_V hfu h h6) (fun x q hx h1 h2 => ?_) fun k r v q h h6 => yx_some h h6
      rw [nI_l (by have := yp_Vb hx; omega)]
      exact ym_ok (Nat.le_refl _) h2
    · rw [if_pos (hi.mpr hb), if_neg (fun z => hb (by rcases z with z | z | z | z | z | z <;> simp [z]))]
      exact hsg
/-- what follows an instruction of this shape: x, y, where a row lies and what is in it -/
def yp_imm (B : Nat → Int32) (lim : Nat) (s : Int32) (p : Nat) : (((Option Nat ⊕ Int64) × Int64 × Nat × List Nat) × Nat) ⊕ Nat :=
  if s = 45 then .inr 1
  else if s = 46 then .inl ((.inr 0, 0, 0, []), p)
  else if s = 98 then yp_then (yp_BT B lim p) fun t q => .inl ((t, 0, 0, []), q)
  else if s = 101 then .inl ((.inr 0, 0, 0, []), p)
  else if s = 105 then yp_then (yp_S B lim 32 p) fun x q => .inl ((.inr x, 0, 0, []), q)
  else if s = 108 then yp_then (yp_S B lim 64 p) fun x q => .inl ((.inr x, 0, 0, []), q)
  else if s = 110 then .inl ((.inr 0, 0, 0, []), p)
  else if s = 114 then yp_then (yp_N B lim p) fun n q => yp_then (yp_rep (yp_N B lim) n q) fun l r => yp_then (yp_N B lim r) fun m r => .inl ((.inr (lN m), 0, q, l), r)
  else if s = 116 then yp_then (yp_T B lim p) fun t q => .inl ((.inr (lN t), 0, 0, []), q)
  else if s = 117 then yp_then (yp_N B lim p) fun n q => .inl ((.inr (lN n), 0, 0, []), q)
  else if s = 119 then yp_then (yp_N B lim p) fun n q => yp_then (yp_N B lim q) fun m q => .inl ((.inr (lN n), lN m, 0, []), q)
  else if s = 122 then yp_then (yp_want 0 B lim p) fun _ q => .inl ((.inr 0, 0, 0, []), q)
  else .inr 0
/-- an instruction -/
def yp_ins (B : Nat → Int32) (lim p : Nat) : ((Nat × (Option Nat ⊕ Int64) × Int64 × Nat × List Nat) × Nat) ⊕ Nat :=
  yp_then (yp_byte B lim p) fun b q =>
    if b = 251 then yp_then (yp_N B lim q) fun n q => if n ≤ 30 then yp_then (yp_imm B lim (xt_S (256 + n)) q) fun i q => .inl ((256 + n, i), q) else .inr 0
    else yp_then (yp_imm B lim (xt_S b.toNatClampNeg) q) fun i q => .inl ((b.toNatClampNeg, i), q)
end
