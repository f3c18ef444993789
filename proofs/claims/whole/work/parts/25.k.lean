section
variable {α β γ δ : Type} {B : Nat → Int32} {u v w : xk_St} {lim p q fu : Nat} {e : Int32}
theorem lN_m1 {n k : Nat} (h : k < n) : lN (n - k) - 1 = lN (n - (k + 1)) := by
  rw [show (1 : Int64) = lN 1 from rfl, lN_sub (by omega)]
  congr 1
theorem lN_le0 {n k : Nat} (hn : n < 2 ^ 32) : lN (n - k) ≤ 0 ↔ n ≤ k := by
  rw [show (0 : Int64) = lN 0 from rfl, pk_lLE (by omega) (by decide)]
  omega
/-- a row of value types, with a fault before -/
theorem mx_row5 {n : Nat} {x : Int64} (he : ¬ e = 0) (h : ym_st B lim q v) (h6 : v.1 6 = e) : ym_X B lim e (jb_Model_valueRow_5 fu (n + 1) x v) := by
  unfold jb_Model_valueRow_5
  refine yx_let (yx_ite (fun _ => yx_some h h6) fun _ => ?_)
  rw [if_neg (by rw [h6]; exact he)]
  exact yx_some h h6
theorem mx_row (hfu : 20 ≤ fu) (he : ¬ e = 0) (h : ym_st B lim q v) (h6 : v.1 6 = e) : ym_X B lim e (fm_Model_valueRow fu v) := by
  unfold fm_Model_valueRow
  obtain ⟨n, rfl⟩ : ∃ n, fu = n + 1 := ⟨fu - 1, by omega⟩
  exact yx_seq (mx_N hfu he h h6) fun r v q h h6 => mx_row5 he h h6
theorem mm_row (hfu : 20 ≤ fu) (hn : lim + 3 ≤ fu) (h : ym_st B lim p u) (h6 : u.1 6 = 0) : zC B lim p (fm_Model_valueRow fu u) (yp_then (yp_N B lim p) fun n q => yp_rep (yp_V B lim) n q) (zJ B lim fun _ _ _ => True) := by
  unfold fm_Model_valueRow
  refine zC_seq (zC_of h h6 (mm_N hfu h h6)) (fun N q b v e1 _ h h6 hb => ?_) fun k r v q h h6 => ?_
  · obtain ⟨rfl, -⟩ := hb
    have hN := (yp_Nb e1).1
    have := zC_rep (B := B) (lim := lim) (lim2 := lim) (it := yp_V B lim) yp_V_eats' (fun _ _ => True) N (fun n k v => jb_Model_valueRow_5 fu n (lN (N - k)) v) (fun v => some ((), v)) ?_ ?_ (lim - q + 1) [] q fu v (by omega) (by omega) (Nat.zero_le _) (Nat.zero_le _) h h6 trivial
    · refine zC_mono this fun l q e1 e2 hj => ?_
      obtain ⟨v, e3, e4, e5, -⟩ := hj
      exact ⟨(), v, e3, e4, e5, trivial⟩
    · intro n k v hk _
      show jb_Model_valueRow_5 fu (n + 1) (lN (N - k)) v = _
      unfold jb_Model_valueRow_5
      simp only [xs_let]
      rw [if_pos ((lN_le0 hN).mpr hk)]
    · intro n l p v hl hl2 hv h6 _
      show zC B lim p (jb_Model_valueRow_5 fu (n + 2) (lN (N - l.length)) v) _ _
      conv => arg 4; unfold jb_Model_valueRow_5
      simp only [xs_let]
      rw [if_neg (fun z => by have := (lN_le0 hN).mp z; omega), if_pos h6, lN_m1 hl]
      have e0 : yp_V B lim p = yp_then (yp_V B lim p) fun c q => .inl (c, q) := by
        generalize yp_V B lim p = s
        rcases s with ⟨a, b⟩ | k <;> rfl
      rw [e0]
      refine zC_seq (zC_of hv h6 (mm_V hfu hv h6)) (fun c q b v _ _ h h6 hb => ?_) fun k r v q h h6 => mx_row5 ym_c0 h h6
      exact zC_ok (Nat.le_refl _) ⟨v, rfl, h, h6, trivial⟩
  · obtain ⟨n, rfl⟩ : ∃ n, fu = n + 1 := ⟨fu - 1, by omega⟩
    exact mx_row5 ym_c0 h h6
theorem mx_tf52 {n : Nat} {x y : Int64} (he : ¬ e = 0) (h : ym_st B lim q v) (h6 : v.1 6 = e) : ym_X B lim e (jb_Model_typeForm_52 fu (n + 1) x y v) := by
  unfold jb_Model_typeForm_52 jb_Model_typeForm_85
  refine yx_let (yx_ite (fun _ => yx_some h h6) fun _ => ?_)
  rw [if_neg (by rw [h6]; exact he)]
  exact yx_some h h6
theorem lN_leN {n k : Nat} (hn : n < 2 ^ 32) (hk : k ≤ 8192) : lN n ≤ lN k ↔ n ≤ k := pk_lLE (by omega) (by omega)
theorem mm_tf48 {N : Nat} (hN : N < 2 ^ 32) (hfu : 20 ≤ fu) (hn : lim + 3 ≤ fu) (h : ym_st B lim p u) (h6 : u.1 6 = 0) : zC B lim p (jb_Model_typeForm_48 fu (lN N) u) (yp_rep (yp_fld B lim) N p) (zJ B lim fun _ _ _ => True) := by
  unfold jb_Model_typeForm_48
  have := zC_rep (B := B) (lim := lim) (lim2 := lim) (it := yp_fld B lim) yp_fld_eats (fun _ _ => True) N (fun n k v => jb_Model_typeForm_52 fu n (lN N) (lN k) v) (fun v => some ((), v)) ?_ ?_ (lim - p + 1) [] p fu u (by omega) (by omega) (Nat.zero_le _) (Nat.zero_le _) h h6 trivial
  · refine zC_mono this fun l q e1 e2 hj => ?_
    obtain ⟨v, e3, e4, e5, -⟩ := hj
    exact ⟨(), v, e3, e4, e5, trivial⟩
  · intro n k v hk hk2
    show jb_Model_typeForm_52 fu (n + 1) (lN N) (lN k) v = _
    unfold jb_Model_typeForm_52 jb_Model_typeForm_85
    simp only [xs_let]
    rw [if_pos ((lN_leN hN hk2).mpr hk)]
  · intro n l p v hl hl2 hv h6 _
    show zC B lim p (jb_Model_typeForm_52 fu (n + 2) (lN N) (lN l.length) v) _ _
    conv => arg 4; unfold jb_Model_typeForm_52
    unfold yp_fld
    simp only [xs_let]
    rw [if_neg (fun z => by have := (lN_leN hN hl2).mp z; omega), if_pos h6, lN_1]
    refine zC_seq (zC_of hv h6 (mm_F hfu hv h6)) (fun c q b v _ _ h h6 hb => ?_) fun k r v q h h6 => ?_
    · refine zC_seq (zC_of h h6 (mm_flag h h6)) (fun f q b v _ _ h h6 hb => ?_) fun k r v q h h6 => mx_tf52 ym_c0 h h6
      exact zC_ok (Nat.le_refl _) ⟨v, rfl, h, h6, trivial⟩
    · exact yx_seq (mx_flag ym_c0 h h6) fun r v q h h6 => mx_tf52 ym_c0 h h6
theorem mx_tf34 {b : Int32} (hfu : 20 ≤ fu) (he : ¬ e = 0) (h : ym_st B lim q v) (h6 : v.1 6 = e) : ym_X B lim e (jb_Model_typeForm_34 fu b v) := by
  obtain ⟨n, hn⟩ : ∃ n, fu = n + 1 := ⟨fu - 1, by omega⟩
  unfold jb_Model_typeForm_34 jb_Model_typeForm_48
  refine yx_ite (fun _ => ?_) fun _ => ?_
  · conv => arg 4; arg 2; rw [hn]
    exact mx_tf52 he h h6
  · refine yx_seq (mx_N hfu he h h6) fun r v q h h6 => ?_
    conv => arg 4; arg 2; rw [hn]
    exact mx_tf52 he h h6
theorem mx_tf (hfu : 20 ≤ fu) (he : ¬ e = 0) (h : ym_st B lim q v) (h6 : v.1 6 = e) : ym_X B lim e (fm_Model_typeForm fu v) := by
  unfold fm_Model_typeForm
  refine yx_seq (mx_one he h h6) fun r v q h h6 => yx_ite (fun _ => ?_) fun _ => yx_ite (fun _ => mx_tf34 hfu he h h6) fun _ => yx_ite (fun _ => mx_tf34 hfu he h h6) fun _ => ?_
  · exact yx_seq (mx_row hfu he h h6) fun r v q h h6 => yx_seq (mx_row hfu he h h6) fun r v q h h6 => yx_some h h6
  · exact yx_seq (mx_fail he h h6) fun r v q h h6 => yx_some h h6
theorem mm_tf (hfu : 20 ≤ fu) (hn : lim + 3 ≤ fu) (h : ym_st B lim p u) (h6 : u.1 6 = 0) : zC B lim p (fm_Model_typeForm fu u) (yp_tf B lim p) (zJ B lim fun _ _ _ => True) := by
  unfold fm_Model_typeForm yp_tf
  refine zC_seq (zC_of' h h6 (mm_one h h6)) (fun a q b v _ _ h h6 hb => ?_) fun k r v q h h6 => ?_
  · obtain ⟨rfl, -⟩ := hb
    by_cases c1 : b = 94
    · subst c1
      rw [if_pos rfl, if_neg (by decide), if_neg (by decide), if_pos rfl]
      unfold jb_Model_typeForm_34
      rw [if_pos rfl]
      refine zC_then (mm_tf48 (N := 1) (by decide) hfu hn h h6) fun l q _ _ hj => ?_
      obtain ⟨b, v, e1, e2, e3, -⟩ := hj
      exact zC_ok (Nat.le_refl _) ⟨b, v, e1, e2, e3, trivial⟩
    simp only [if_neg c1]
    by_cases c2 : b = 95
    · subst c2
      rw [if_pos rfl, if_neg (by decide), if_pos rfl]
      unfold jb_Model_typeForm_34
      rw [if_neg (by decide)]
      refine zC_seq (zC_of h h6 (mm_N hfu h h6)) (fun N q b v e1 _ h h6 hb => ?_) fun k r v q h h6 => ?_
      · obtain ⟨rfl, -⟩ := hb
        refine zC_then (mm_tf48 (yp_Nb e1).1 hfu hn h h6) fun l q _ _ hj => ?_
        obtain ⟨b, v, e1, e2, e3, -⟩ := hj
        exact zC_ok (Nat.le_refl _) ⟨b, v, e1, e2, e3, trivial⟩
      · obtain ⟨n, hn'⟩ : ∃ n, fu = n + 1 := ⟨fu - 1, by omega⟩
        unfold jb_Model_typeForm_48
        conv => arg 4; arg 2; rw [hn']
        exact mx_tf52 ym_c0 h h6
    simp only [if_neg c2]
    by_cases c3 : b = 96
    · rw [if_pos c3, if_pos c3]
      have e0 : (yp_then (yp_N B lim q) fun n q => yp_then (yp_rep (yp_V B lim) n q) fun l q => yp_then (yp_N B lim q) fun m q => yp_then (yp_rep (yp_V B lim) m q) fun r q => (.inl ((96, l, r), q) : ((Nat × List Nat × List Nat) × Nat) ⊕ Nat)) = yp_then (yp_then (yp_N B lim q) fun n q => yp_rep (yp_V B lim) n q) fun l q => yp_then (yp_then (yp_N B lim q) fun m q => yp_rep (yp_V B lim) m q) fun r q => .inl ((96, l, r), q) := by
        simp only [yp_then_then]
      rw [e0]
      refine zC_seq (mm_row hfu hn h h6) (fun l q b v _ _ h h6 _ => ?_) fun k r v q h h6 => ?_
      · refine zC_seq (mm_row hfu hn h h6) (fun l q b v _ _ h h6 _ => ?_) fun k r v q h h6 => yx_some h h6
        exact zC_ok (Nat.le_refl _) ⟨_, v, rfl, h, h6, trivial⟩
      · exact yx_seq (mx_row hfu ym_c0 h h6) fun r v q h h6 => yx_some h h6
    simp only [if_neg c3]
    exact zC_no (yx_seq (mm_fail h h6) fun r v q h h6 => yx_some h h6)
  · refine yx_ite (fun _ => ?_) fun _ => yx_ite (fun _ => mx_tf34 hfu ym_c0 h h6) fun _ => yx_ite (fun _ => mx_tf34 hfu ym_c0 h h6) fun _ => ?_
    · exact yx_seq (mx_row hfu ym_c0 h h6) fun r v q h h6 => yx_seq (mx_row hfu ym_c0 h h6) fun r v q h h6 => yx_some h h6
    · exact yx_seq (mx_fail ym_c0 h h6) fun r v q h h6 => yx_some h h6
end
