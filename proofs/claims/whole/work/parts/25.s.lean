section
variable {α β γ δ : Type} {B : Nat → Int32} {u v w : xk_St} {L lim p q fu : Nat} {e : Int32}
theorem mx_e17 (hfu : 20 ≤ fu) (he : ¬ e = 0) (h : ym_st B lim q v) (h6 : v.1 6 = e) : ym_X B lim e (jb_Model_exportForm_17 fu v) := by
  unfold jb_Model_exportForm_17
  exact yx_seq (mx_N hfu he h h6) fun r v q h h6 => yx_some h h6
theorem mx_exp (hfu : 20 ≤ fu) (he : ¬ e = 0) (h : ym_st B lim q v) (h6 : v.1 6 = e) : ym_X B lim e (fm_Model_exportForm fu v) := by
  unfold fm_Model_exportForm
  refine yx_seq (mx_bytes hfu he h h6) fun r v q h h6 => yx_seq (mx_one he h h6) fun r v q h h6 => yx_ite (fun _ => mx_e17 hfu he h h6) fun _ => ?_
  exact yx_seq (mx_fail he h h6) fun r v q h h6 => mx_e17 hfu he h h6
theorem mm_exp (hfu : 20 ≤ fu) (h : ym_st B lim p u) (h6 : u.1 6 = 0) : zC B lim p (fm_Model_exportForm fu u) (yp_exp B lim p) (zJ B lim fun _ _ _ => True) := by
  unfold fm_Model_exportForm yp_exp
  refine zC_seq (mm_bytes hfu h h6) (fun a q b v _ _ h h6 _ => ?_) fun k r v q h h6 => ?_
  · refine zC_seq (zC_of' h h6 (mm_one h h6)) (fun a q b v _ _ h h6 hb => ?_) fun k r v q h h6 => ?_
    · obtain ⟨rfl, -⟩ := hb
      refine zC_ite (fun _ => ?_) fun _ => zC_no (yx_seq (mm_fail h h6) fun r v q h h6 => mx_e17 hfu (by decide) h h6)
      unfold jb_Model_exportForm_17
      refine zC_seq (zC_of h h6 (mm_N hfu h h6)) (fun a q b v _ _ h h6 hb => ?_) fun k r v q h h6 => yx_some h h6
      exact zC_ok (Nat.le_refl _) ⟨_, _, rfl, h, h6, trivial⟩
    · refine yx_ite (fun _ => mx_e17 hfu ym_c0 h h6) fun _ => ?_
      exact yx_seq (mx_fail ym_c0 h h6) fun r v q h h6 => mx_e17 hfu ym_c0 h h6
  · refine yx_seq (mx_one ym_c0 h h6) fun r v q h h6 => yx_ite (fun _ => mx_e17 hfu ym_c0 h h6) fun _ => ?_
    exact yx_seq (mx_fail ym_c0 h h6) fun r v q h h6 => mx_e17 hfu ym_c0 h h6
theorem mx_s20 {n : Nat} {x : Int32} {y z : Int64} (he : ¬ e = 0) (h : ym_st B lim q v) (h6 : v.1 6 = e) : ym_X B lim e (jb_Model_section_20 fu (n + 1) x y z v) := by
  unfold jb_Model_section_20
  refine yx_let (yx_ite (fun _ => yx_some h h6) fun _ => ?_)
  rw [if_neg (by rw [h6]; exact he)]
  exact yx_some h h6
/-- a section that is a row of items -/
theorem mm_sec {it : Nat → (α × Nat) ⊕ Nat} {id : Int32} (hid : ¬ id = 8) (hit : yp_eats lim it) (item : xk_St → (xk_St → Option (Unit × xk_St)) → Option (Unit × xk_St))
    (hF : ∀ n N k v, ¬ lN N ≤ lN k → v.1 6 = 0 → jb_Model_section_20 fu (n + 1) id (lN N) (lN k) v = item v fun w => jb_Model_section_20 fu n id (lN N) (lN (k + 1)) w)
    (hi : ∀ p v (K : xk_St → Option (Unit × xk_St)), 3 ≤ p → ym_st B lim p v → v.1 6 = 0 → (∀ e w q, ¬ e = 0 → ym_st B lim q w → w.1 6 = e → ym_X B lim e (K w)) → zC B lim p (item v K) (it p) fun _ q o => ∃ w, o = K w ∧ ym_st B lim q w ∧ w.1 6 = 0)
    (hfu : 20 ≤ fu) (hn : lim + 3 ≤ fu) (hp3 : 3 ≤ p) (h : ym_st B lim p u) (h6 : u.1 6 = 0) : zC B lim p (fm_Model_section fu id u) (yp_then (yp_N B lim p) fun n q => yp_rep it n q) (zJ B lim fun _ _ _ => True) := by
  unfold fm_Model_section
  rw [if_neg hid]
  refine zC_seq (zC_of h h6 (mm_N hfu h h6)) (fun N q b v e1 _ h h6 hb => ?_) fun k r v q h h6 => ?_
  · obtain ⟨rfl, -⟩ := hb
    obtain ⟨hN, hpq, -⟩ := yp_Nb e1
    have := zC_rep (B := B) (lim := lim) (lim2 := lim) hit (fun _ v => ∃ p, v.1 4 = nI p ∧ 3 ≤ p ∧ p ≤ 8192) N (fun n k v => jb_Model_section_20 fu n id (lN N) (lN k) v) (fun v => some ((), v)) ?_ ?_ (lim - q + 1) [] q fu v (by omega) (by omega) (Nat.zero_le _) (Nat.zero_le _) h h6 ⟨q, h.2.1, by omega, by have := h.2.2.2; omega⟩
    · refine zC_mono this fun l q e1 e2 hj => ?_
      obtain ⟨v, e3, e4, e5, -⟩ := hj
      exact ⟨(), v, e3, e4, e5, trivial⟩
    · intro n k v hk hk2
      show jb_Model_section_20 fu (n + 1) id (lN N) (lN k) v = _
      unfold jb_Model_section_20
      simp only [xs_let]
      rw [if_pos ((lN_leN hN hk2).mpr hk)]
    · intro n l p' v hl hl2 hv h6 hI
      obtain ⟨p2, i1, i2, i3⟩ := hI
      have hp' : p2 = p' := (nI_eq (by omega) (by have := hv.2.2.2; omega)).mp (i1.symm.trans hv.2.1)
      subst hp'
      show zC B lim p2 (jb_Model_section_20 fu (n + 2) id (lN N) (lN l.length) v) _ _
      rw [hF (n + 1) N l.length v (fun z => by have := (lN_leN hN hl2).mp z; omega) h6]
      refine zC_mono (hi p2 v _ i2 hv h6 fun e w q he h h6 => mx_s20 he h h6) fun a q _ hq hj => ?_
      obtain ⟨w, e1, e2, e3⟩ := hj
      exact ⟨w, e1, e2, e3, q, e2.2.1, by omega, by have := e2.2.2.2; omega⟩
  · obtain ⟨n, hn'⟩ : ∃ n, fu = n + 1 := ⟨fu - 1, by omega⟩
    conv => arg 4; arg 2; rw [hn']
    exact mx_s20 ym_c0 h h6
/-- sections whose item is one call, or some one behind the other -/
theorem mm_s1 (hfu : 20 ≤ fu) (hn : lim + 3 ≤ fu) (hp3 : 3 ≤ p) (h : ym_st B lim p u) (h6 : u.1 6 = 0) : zC B lim p (fm_Model_section fu 1 u) (yp_then (yp_N B lim p) fun n q => yp_rep (yp_tf B lim) n q) (zJ B lim fun _ _ _ => True) := by
  refine mm_sec (by decide) yp_tf_eats (fun v K => xs_seq (fm_Model_typeForm fu v) fun _ w => K w) ?_ ?_ hfu hn hp3 h h6
  · intro n N k v hk h6
    conv => lhs; unfold jb_Model_section_20
    simp only [xs_let]
    rw [if_neg hk, if_pos h6, if_pos trivial, ← lN_1]
    rfl
  · intro p v K hp hv h6 hK
    rw [yp_self (s := yp_tf B lim p)]
    refine zC_seq (mm_tf hfu hn hv h6) (fun a q b v _ _ h h6 _ => ?_) fun k r v q h h6 => hK _ _ _ ym_c0 h h6
    exact zC_ok (Nat.le_refl _) ⟨v, rfl, h, h6⟩
theorem mm_s3 (hfu : 20 ≤ fu) (hn : lim + 3 ≤ fu) (hp3 : 3 ≤ p) (h : ym_st B lim p u) (h6 : u.1 6 = 0) : zC B lim p (fm_Model_section fu 3 u) (yp_then (yp_N B lim p) fun n q => yp_rep (yp_N B lim) n q) (zJ B lim fun _ _ _ => True) := by
  refine mm_sec (by decide) yp_N_eats' (fun v K => xs_seq (fm_Model_number fu v) fun _ w => K w) ?_ ?_ hfu hn hp3 h h6
  · intro n N k v hk h6
    conv => lhs; unfold jb_Model_section_20
    simp only [xs_let]
    rw [if_neg hk, if_pos h6, if_neg (by decide), if_neg (by decide), if_pos trivial, ← lN_1]
    rfl
  · intro p v K hp hv h6 hK
    rw [yp_self (s := yp_N B lim p)]
    refine zC_seq (zC_of hv h6 (mm_N hfu hv h6)) (fun a q b v _ _ h h6 _ => ?_) fun k r v q h h6 => hK _ _ _ ym_c0 h h6
    exact zC_ok (Nat.le_refl _) ⟨v, rfl, h, h6⟩
theorem mm_s4 (hfu : 20 ≤ fu) (hn : lim + 3 ≤ fu) (hp3 : 3 ≤ p) (h : ym_st B lim p u) (h6 : u.1 6 = 0) : zC B lim p (fm_Model_section fu 4 u) (yp_then (yp_N B lim p) fun n q => yp_rep (yp_tab B lim) n q) (zJ B lim fun _ _ _ => True) := by
  refine mm_sec (by decide) yp_tab_eats (fun v K => xs_seq (fm_Model_needs 112 v) fun _ w => xs_seq (fm_Model_limits fu w) fun _ w => K w) ?_ ?_ hfu hn hp3 h h6
  · intro n N k v hk h6
    conv => lhs; unfold jb_Model_section_20
    simp only [xs_let]
    rw [if_neg hk, if_pos h6, if_neg (by decide), if_neg (by decide), if_neg (by decide), if_pos trivial, ← lN_1]
    rfl
  · intro p v K hp hv h6 hK
    unfold yp_tab
    refine zC_seq (zC_of' hv h6 (mm_want hv h6)) (fun a q b v _ _ h h6 _ => ?_) fun k r v q h h6 => yx_seq (mx_limits hfu ym_c0 h h6) fun r v q h h6 => hK _ _ _ ym_c0 h h6
    rw [yp_self (s := yp_limits B lim q)]
    refine zC_seq (mm_limits hfu h h6) (fun a q b v _ _ h h6 _ => ?_) fun k r v q h h6 => hK _ _ _ ym_c0 h h6
    exact zC_ok (Nat.le_refl _) ⟨v, rfl, h, h6⟩
theorem mm_s5 (hfu : 20 ≤ fu) (hn : lim + 3 ≤ fu) (hp3 : 3 ≤ p) (h : ym_st B lim p u) (h6 : u.1 6 = 0) : zC B lim p (fm_Model_section fu 5 u) (yp_then (yp_N B lim p) fun n q => yp_rep (yp_limits B lim) n q) (zJ B lim fun _ _ _ => True) := by
  refine mm_sec (by decide) yp_limits_eats' (fun v K => xs_seq (fm_Model_limits fu v) fun _ w => K w) ?_ ?_ hfu hn hp3 h h6
  · intro n N k v hk h6
    conv => lhs; unfold jb_Model_section_20
    simp only [xs_let]
    rw [if_neg hk, if_pos h6, if_neg (by decide), if_neg (by decide), if_neg (by decide), if_neg (by decide), if_pos trivial, ← lN_1]
    rfl
  · intro p v K hp hv h6 hK
    rw [yp_self (s := yp_limits B lim p)]
    refine zC_seq (mm_limits hfu hv h6) (fun a q b v _ _ h h6 _ => ?_) fun k r v q h h6 => hK _ _ _ ym_c0 h h6
    exact zC_ok (Nat.le_refl _) ⟨v, rfl, h, h6⟩
theorem mm_s6 (hfu : 20 ≤ fu) (hn : lim + 3 ≤ fu) (hp3 : 3 ≤ p) (h : ym_st B lim p u) (h6 : u.1 6 = 0) : zC B lim p (fm_Model_section fu 6 u) (yp_then (yp_N B lim p) fun n q => yp_rep (yp_glo B lim) n q) (zJ B lim fun _ _ _ => True) := by
  refine mm_sec (by decide) yp_glo_eats (fun v K => xs_seq (fm_Model_valueType fu v) fun _ w => xs_seq (fm_Model_flag w) fun _ w => xs_seq (fm_Model_constant fu w) fun _ w => K w) ?_ ?_ hfu hn hp3 h h6
  · intro n N k v hk h6
    conv => lhs; unfold jb_Model_section_20
    simp only [xs_let]
    rw [if_neg hk, if_pos h6, if_neg (by decide), if_neg (by decide), if_neg (by decide), if_neg (by decide), if_neg (by decide), if_pos trivial, ← lN_1]
    rfl
  · intro p v K hp hv h6 hK
    unfold yp_glo
    refine zC_seq (zC_of hv h6 (mm_V hfu hv h6)) (fun a q b v _ _ h h6 _ => ?_) fun k r v q h h6 => yx_seq (mx_flag ym_c0 h h6) fun r v q h h6 => yx_seq (mx_const hfu ym_c0 h h6) fun r v q h h6 => hK _ _ _ ym_c0 h h6
    refine zC_seq (zC_of h h6 (mm_flag h h6)) (fun a q b v _ _ h h6 _ => ?_) fun k r v q h h6 => yx_seq (mx_const hfu ym_c0 h h6) fun r v q h h6 => hK _ _ _ ym_c0 h h6
    refine zC_seq (mm_const hfu h h6) (fun a q b v _ _ h h6 _ => ?_) fun k r v q h h6 => hK _ _ _ ym_c0 h h6
    exact zC_ok (Nat.le_refl _) ⟨v, rfl, h, h6⟩
theorem mm_s7 (hfu : 20 ≤ fu) (hn : lim + 3 ≤ fu) (hp3 : 3 ≤ p) (h : ym_st B lim p u) (h6 : u.1 6 = 0) : zC B lim p (fm_Model_section fu 7 u) (yp_then (yp_N B lim p) fun n q => yp_rep (yp_exp B lim) n q) (zJ B lim fun _ _ _ => True) := by
  refine mm_sec (by decide) yp_exp_eats (fun v K => xs_seq (fm_Model_exportForm fu v) fun _ w => K w) ?_ ?_ hfu hn hp3 h h6
  · intro n N k v hk h6
    conv => lhs; unfold jb_Model_section_20
    simp only [xs_let]
    rw [if_neg hk, if_pos h6, if_neg (by decide), if_neg (by decide), if_neg (by decide), if_neg (by decide), if_neg (by decide), if_neg (by decide), if_pos trivial, ← lN_1]
    rfl
  · intro p v K hp hv h6 hK
    rw [yp_self (s := yp_exp B lim p)]
    refine zC_seq (mm_exp hfu hv h6) (fun a q b v _ _ h h6 _ => ?_) fun k r v q h h6 => hK _ _ _ ym_c0 h h6
    exact zC_ok (Nat.le_refl _) ⟨v, rfl, h, h6⟩
theorem mm_s11 (hfu : 20 ≤ fu) (hn : lim + 3 ≤ fu) (hp3 : 3 ≤ p) (h : ym_st B lim p u) (h6 : u.1 6 = 0) : zC B lim p (fm_Model_section fu 11 u) (yp_then (yp_N B lim p) fun n q => yp_rep (yp_da B lim) n q) (zJ B lim fun _ _ _ => True) := by
  refine mm_sec (by decide) yp_da_eats (fun v K => xs_seq (fm_Model_place fu v) fun _ w => xs_seq (fm_Model_bytesForm fu w) fun _ w => K w) ?_ ?_ hfu hn hp3 h h6
  · intro n N k v hk h6
    conv => lhs; unfold jb_Model_section_20
    simp only [xs_let]
    rw [if_neg hk, if_pos h6, if_neg (by decide), if_neg (by decide), if_neg (by decide), if_neg (by decide), if_neg (by decide), if_neg (by decide), if_neg (by decide), if_neg (by decide), if_neg (by decide), if_neg (by decide), ← lN_1]
    rfl
  · intro p v K hp hv h6 hK
    unfold yp_da
    refine zC_seq (mm_place hfu hv h6) (fun a q b v _ _ h h6 _ => ?_) fun k r v q h h6 => yx_seq (mx_bytes hfu ym_c0 h h6) fun r v q h h6 => hK _ _ _ ym_c0 h h6
    refine zC_seq (mm_bytes hfu h h6) (fun a q b v _ _ h h6 _ => ?_) fun k r v q h h6 => hK _ _ _ ym_c0 h h6
    exact zC_ok (Nat.le_refl _) ⟨v, rfl, h, h6⟩
end
