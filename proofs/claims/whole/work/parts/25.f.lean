section
variable {α β : Type} {B : Nat → Int32} {u v : xk_St} {lim p q fu : Nat} {e : Int32}
/-- a value's type, in the reference's code -/
def yp_V (B : Nat → Int32) (lim p : Nat) : (Nat × Nat) ⊕ Nat :=
  yp_then (yp_byte B lim p) fun b q => if b = 99 then yp_then (yp_T B lim q) fun t q => .inl (16 + 2 * t + 1, q) else if b = 100 then yp_then (yp_T B lim q) fun t q => .inl (16 + 2 * t, q) else if b = 108 then .inl (19, q) else if b = 109 then .inl (17, q) else if b = 126 then .inl (2, q) else if b = 127 then .inl (1, q) else .inr 0
theorem yp_Tb {t q : Nat} (h : yp_T B lim p = .inl (t, q)) : t ≤ 66 := by
  unfold yp_T yp_peek at h
  by_cases hc : lim ≤ p
  · rw [if_pos hc] at h; cases h
  · rw [if_neg hc] at h
    simp only [yp_then] at h
    split at h
    · cases h; omega
    · split at h
      · cases h; omega
      · split at h
        · next a q' _ =>
          split at h
          · next hx =>
            have := yc_lt hx
            cases h; omega
          · cases h
        · cases h
theorem hh_refn {t : Nat} : fm_Types_reference (nI t) 1 u = some (nI (16 + 2 * t + 1), u) := by
  unfold fm_Types_reference
  rw [if_neg (by decide), show (16 : Int32) = nI 16 from rfl, show (2 : Int32) = nI 2 from rfl, pk_mul, nI_add, nI_1]
theorem hh_ref0 {t : Nat} : fm_Types_reference (nI t) 0 u = some (nI (16 + 2 * t), u) := by
  unfold fm_Types_reference
  rw [if_pos rfl, show (16 : Int32) = nI 16 from rfl, show (2 : Int32) = nI 2 from rfl, pk_mul, nI_add, show (0 : Int32) = nI 0 from rfl, nI_add]
  rfl
theorem mm_refn {t : Nat} : fm_Model_reference (nI t) 1 u = some (nI (16 + 2 * t + 1), u) := by
  unfold fm_Model_reference
  rw [if_neg (by decide), show (16 : Int32) = nI 16 from rfl, show (2 : Int32) = nI 2 from rfl, pk_mul, nI_add, nI_1]
theorem mm_ref0 {t : Nat} : fm_Model_reference (nI t) 0 u = some (nI (16 + 2 * t), u) := by
  unfold fm_Model_reference
  rw [if_pos rfl, show (16 : Int32) = nI 16 from rfl, show (2 : Int32) = nI 2 from rfl, pk_mul, nI_add, show (0 : Int32) = nI 0 from rfl, nI_add]
  rfl
theorem hh_V (hfu : 20 ≤ fu) (h : yh_st B lim p u) : yh_R u lim p (fm_Reader_readValueType fu u) (yp_map (fun c => nI (yv_h c)) (yp_V B lim p)) := by
  unfold fm_Reader_readValueType yp_V
  rw [yp_map_then]
  refine yh_try (hh_byte h) fun a q hm h1 h2 => ?_
  have hst := yh_mv h h2
  simp only [yp_map_ite, yp_map_then, yp_map_l, yp_map_r]
  refine yh_ite (fun _ => ?_) fun _ => yh_ite (fun _ => ?_) fun _ => yh_ite (fun _ => ?_) fun _ => yh_ite (fun _ => ?_) fun _ => yh_ite (fun _ => yh_ok (Nat.le_refl _) h2) fun _ => yh_ite (fun _ => yh_ok (Nat.le_refl _) h2) fun _ => yh_no h2
  · refine yh_base (yh_tryM (hh_T hfu hst) fun t q _ h1 h2 => ?_)
    rw [hh_refn, yv_ht1]
    exact yh_ok (Nat.le_refl _) h2
  · refine yh_base (yh_tryM (hh_T hfu hst) fun t q _ h1 h2 => ?_)
    rw [hh_ref0, yv_ht]
    exact yh_ok (Nat.le_refl _) h2
  · exact yh_ok (Nat.le_refl _) h2
  · exact yh_ok (Nat.le_refl _) h2
theorem mx_V64 {s : Int32} (h : ym_st B lim q v) (h6 : v.1 6 = e) : ym_X B lim e (jb_Model_valueType_64 fu s v) := by
  unfold jb_Model_valueType_64 fm_Model_reference
  rw [if_neg (by decide)]
  exact yx_some h h6
theorem mx_V84 {s t : Int32} (h : ym_st B lim q v) (h6 : v.1 6 = e) : ym_X B lim e (jb_Model_valueType_84 fu s t v) := by
  unfold jb_Model_valueType_84 fm_Model_reference
  refine yx_seq (yx_ite (fun _ => yx_some h h6) fun _ => yx_some h h6) fun r v q h h6 => yx_some h h6
theorem mx_V17 {b : Int32} (hfu : 20 ≤ fu) (he : ¬ e = 0) (h : ym_st B lim q v) (h6 : v.1 6 = e) : ym_X B lim e (jb_Model_valueType_17 fu b v) := by
  unfold jb_Model_valueType_17 jb_Model_valueType_29 jb_Model_valueType_53
  refine yx_ite (fun _ => yx_ite (fun _ => yx_some h h6) fun _ => yx_some h h6) fun _ => yx_ite (fun _ => yx_ite (fun _ => yx_some h h6) fun _ => yx_some h h6) fun _ => yx_ite (fun _ => yx_ite (fun _ => mx_V64 h h6) fun _ => mx_V64 h h6) fun _ => yx_ite (fun _ => yx_ite (fun _ => mx_V64 h h6) fun _ => mx_V64 h h6) fun _ => ?_
  exact yx_seq (mx_T hfu he h h6) fun r v q h h6 => yx_ite (fun _ => mx_V84 h h6) fun _ => mx_V84 h h6
theorem mm_isT (b : Int32) : ∃ c : Int32, fm_Model_isTypeByte b u = some (c, u) ∧ (c = 0 ↔ ¬ (b = 127 ∨ b = 126 ∨ b = 109 ∨ b = 108 ∨ b = 99 ∨ b = 100)) := by
  unfold fm_Model_isTypeByte jb_Model_isTypeByte_36
  by_cases h1 : b = 127
  · exact ⟨1, by rw [if_pos h1], by simp [h1]⟩
  rw [if_neg h1]
  by_cases h2 : b = 126
  · exact ⟨1, by rw [if_pos h2], by simp [h2]⟩
  rw [if_neg h2]
  by_cases h3 : b = 109
  · exact ⟨1, by rw [if_pos h3], by simp [h3]⟩
  rw [if_neg h3]
  by_cases h4 : b = 108
  · exact ⟨1, by rw [if_pos h4], by simp [h4]⟩
  rw [if_neg h4]
  by_cases h5 : b = 99
  · exact ⟨1, by rw [if_pos h5], by simp [h5]⟩
  rw [if_neg h5]
  by_cases h6 : b = 100
  · exact ⟨1, by rw [if_pos h6], by simp [h6]⟩
  exact ⟨0, by rw [if_neg h6], by simp [h1, h2, h3, h4, h5, h6]⟩
theorem mx_V (hfu : 20 ≤ fu) (he : ¬ e = 0) (h : ym_st B lim q v) (h6 : v.1 6 = e) : ym_X B lim e (fm_Model_valueType fu v) := by
  unfold fm_Model_valueType
  refine yx_seq (mx_one he h h6) fun r v q h h6 => ?_
  obtain ⟨c, hc, -⟩ := mm_isT (u := v) r
  rw [hc]
  refine yx_ite (fun _ => ?_) fun _ => mx_V17 hfu he h h6
  exact yx_seq (mx_fail he h h6) fun r v q h h6 => mx_V17 hfu he h h6
theorem mm_V17 {b : Int32} (hfu : 20 ≤ fu) (h : ym_st B lim p u) (h6 : u.1 6 = 0) (hb : b = 127 ∨ b = 126 ∨ b = 109 ∨ b = 108 ∨ b = 99 ∨ b = 100) : ym_R B u lim p (jb_Model_valueType_17 fu b u) (yp_map nI (if b = 99 then yp_then (yp_T B lim p) fun t q => .inl (16 + 2 * t + 1, q) else if b = 100 then yp_then (yp_T B lim p) fun t q => .inl (16 + 2 * t, q) else if b = 108 then .inl (19, p) else if b = 109 then .inl (17, p) else if b = 126 then .inl (2, p) else if b = 127 then .inl (1, p) else .inr 0)) := by
  have hp : p ≤ lim := h.2.2.2.1
  have ho : ∀ c : Int32, ym_R B u lim p (some (c, u)) (.inl (c, p)) := fun c => ym_ok' h.2.1 (Nat.le_refl _) hp
  unfold jb_Model_valueType_17 jb_Model_valueType_29 jb_Model_valueType_53 jb_Model_valueType_64
  rcases hb with rfl | rfl | rfl | rfl | rfl | rfl
  · rw [if_pos rfl, if_pos rfl, if_neg (by decide), if_neg (by decide), if_neg (by decide), if_neg (by decide), if_neg (by decide), if_pos rfl]
    exact ho 1
  · rw [if_neg (by decide), if_pos rfl, if_neg (by decide), if_neg (by decide), if_neg (by decide), if_neg (by decide), if_neg (by decide), if_pos rfl]
    exact ho 2
  · rw [if_neg (by decide), if_neg (by decide), if_pos rfl, if_pos rfl, if_neg (by decide), if_neg (by decide), if_neg (by decide), if_pos rfl, show (0 : Int32) = nI 0 from rfl, mm_refn]
    exact ho 17
  · rw [if_neg (by decide), if_neg (by decide), if_neg (by decide), if_pos rfl, if_neg (by decide), if_neg (by decide), if_neg (by decide), if_pos rfl, show (1 : Int32) = nI 1 from rfl, show fm_Model_reference (nI 1) (nI 1) u = some (nI (16 + 2 * 1 + 1), u) from mm_refn]
    exact ho 19
  · rw [if_neg (by decide), if_neg (by decide), if_neg (by decide), if_neg (by decide), if_pos rfl, yp_map_then]
    refine ym_seqM (mm_T hfu h h6) (fun t q _ h1 h2 => ?_) fun k r v q h h6 => yx_ite (fun _ => mx_V84 h h6) fun _ => mx_V84 h h6
    rw [if_pos rfl]
    unfold jb_Model_valueType_84
    rw [mm_refn]
    exact ym_ok (Nat.le_refl _) h2
  · rw [if_neg (by decide), if_neg (by decide), if_neg (by decide), if_neg (by decide), if_neg (by decide), if_pos rfl, yp_map_then]
    refine ym_seqM (mm_T hfu h h6) (fun t q _ h1 h2 => ?_) fun k r v q h h6 => yx_ite (fun _ => mx_V84 h h6) fun _ => mx_V84 h h6
    rw [if_neg (by decide)]
    unfold jb_Model_valueType_84
    rw [mm_ref0]
    exact ym_ok (Nat.le_refl _) h2
theorem mm_V (hfu : 20 ≤ fu) (h : ym_st B lim p u) (h6 : u.1 6 = 0) : ym_R B u lim p (fm_Model_valueType fu u) (yp_map nI (yp_V B lim p)) := by
  unfold fm_Model_valueType yp_V
  rw [yp_map_then]
  refine ym_seq (mm_one h h6) (fun a q hm h1 h2 => ?_) fun k r v q h h6 => ?_
  · obtain ⟨c, hc, hi⟩ := mm_isT (u := xs_I u 4 (nI q)) a
    rw [hc]
    have hst := ym_mv h h2
    show ym_R B u lim q (if c = 0 then _ else _) _
    by_cases hb : a = 127 ∨ a = 126 ∨ a = 109 ∨ a = 108 ∨ a = 99 ∨ a = 100
    · rw [if_neg (fun z => (hi.mp z) hb)]
      exact ym_base (mm_V17 hfu hst h6 hb)
    · rw [if_pos (hi.mpr hb), if_neg (fun z => hb (by simp [z])), if_neg (fun z => hb (by simp [z])), if_neg (fun z => hb (by simp [z])), if_neg (fun z => hb (by simp [z])), if_neg (fun z => hb (by simp [z])), if_neg (fun z => hb (by simp [z]))]
      exact ym_no (yx_seq (mm_fail hst h6) fun r v q h h6 => mx_V17 hfu (by decide) h h6)
  · obtain ⟨c, hc, -⟩ := mm_isT (u := v) r
    rw [hc]
    refine yx_ite (fun _ => ?_) fun _ => mx_V17 hfu ym_c0 h h6
    exact yx_seq (mx_fail ym_c0 h h6) fun r v q h h6 => mx_V17 hfu ym_c0 h h6
/-- a field's type -/
def yp_F (B : Nat → Int32) (lim p : Nat) : (Nat × Nat) ⊕ Nat :=
  yp_then (yp_peek B lim p) fun b q => if b = 120 then .inl (3, q + 1) else if b = 119 then .inl (4, q + 1) else yp_V B lim q
theorem mx_F (hfu : 20 ≤ fu) (he : ¬ e = 0) (h : ym_st B lim q v) (h6 : v.1 6 = e) : ym_X B lim e (fm_Model_fieldType fu v) := by
  unfold fm_Model_fieldType
  rw [mm_ahead h]
  have hgo : ∀ b : Int32, q + 1 ≤ lim → ym_X B lim e (jb_Model_fieldType_22 fu b v) := by
    intro b hq
    unfold jb_Model_fieldType_22
    have h' : ym_st B lim (q + 1) (xs_I v 4 (v.1 4 + 1)) := by
      rw [h.2.1, nI_1]; exact ym_mv h hq
    exact yx_ite (fun _ => yx_some h' h6) fun _ => yx_some h' h6
  refine yx_ite (fun hb => ?_) fun _ => yx_ite (fun hb => ?_) fun _ => ?_
  · exact hgo _ (yb_ah (by decide) hb).1
  · exact hgo _ (yb_ah (by decide) hb).1
  · exact yx_seq (mx_V hfu he h h6) fun r v q h h6 => yx_some h h6
theorem mm_F (hfu : 20 ≤ fu) (h : ym_st B lim p u) (h6 : u.1 6 = 0) : ym_R B u lim p (fm_Model_fieldType fu u) (yp_map nI (yp_F B lim p)) := by
  unfold fm_Model_fieldType yp_F
  rw [mm_ahead h, yp_map_then, ys_seq]
  unfold yp_peek
  have hx : ∀ {s : (Nat × Nat) ⊕ Nat}, ym_R B u lim p (fm_Model_valueType fu u) (yp_map nI s) → ym_R B u lim p (xs_seq (fm_Model_valueType fu u) fun a4 u5 => some (a4, u5)) (yp_map nI s) := by
    intro s hs
    have : (xs_seq (fm_Model_valueType fu u) fun a4 u5 => some (a4, u5)) = fm_Model_valueType fu u := by
      generalize fm_Model_valueType fu u = o
      rcases o with _ | ⟨a, b⟩ <;> rfl
    rw [this]; exact hs
  by_cases hc : lim ≤ p
  · rw [if_pos hc, if_pos hc, if_neg (by decide), if_neg (by decide)]
    have hs : yp_V B lim p = .inr 0 := by
      unfold yp_V yp_byte
      rw [if_pos hc]; rfl
    have := hx (mm_V hfu h h6)
    rw [hs] at this
    exact this
  · rw [if_neg hc, if_neg hc]
    have hq1 : p + 1 ≤ lim := by omega
    have e17 : u.1 4 + 1 = nI (p + 1) := by rw [h.2.1, nI_1]
    show ym_R B u lim p _ (yp_map nI (if yb_b B p = 120 then _ else _))
    rw [yp_map_ite, yp_map_ite, yp_map_l, yp_map_l]
    refine ym_ite (fun ha => ?_) fun ha => ym_ite (fun ha => ?_) fun ha2 => hx (mm_V hfu h h6)
    · unfold jb_Model_fieldType_22
      simp only [xs_let]
      rw [if_pos ha, e17]
      exact ym_ok (Nat.le_succ _) hq1
    · unfold jb_Model_fieldType_22
      simp only [xs_let]
      rw [if_neg (by rw [ha]; decide), e17]
      exact ym_ok (Nat.le_succ _) hq1
end
