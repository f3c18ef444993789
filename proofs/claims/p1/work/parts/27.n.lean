section
variable {α β γ δ : Type} {B : Nat → Int32} {u v w : xk_St} {lim p q fu : Nat} {e : Int32}
theorem yp_N_eats' : yp_eats lim (yp_N B lim) := fun _ _ _ h => (yp_Nb h).2
theorem mx_pair (hfu : 20 ≤ fu) (he : ¬ e = 0) (h : ym_st B lim q v) (h6 : v.1 6 = e) : ym_X B lim e (fm_Model_pair fu v) := by
  unfold fm_Model_pair
  refine yx_seq (mx_N hfu he h h6) fun r v q h h6 => yx_let (yx_seq (mx_N hfu he (ym_J h) h6) fun r v q h h6 => yx_let (yx_some (ym_J h) h6))
theorem mx_w43 {x : Int64} (hfu : 20 ≤ fu) (he : ¬ e = 0) (h : ym_st B lim q v) (h6 : v.1 6 = e) : ym_X B lim e (jb_Model_ways_43 fu x v) := by
  have h59 : ∀ y : Int64, ym_X B lim e (jb_Model_ways_59 fu y v) := fun y => by
    unfold jb_Model_ways_59
    have h' : ym_st B lim q (xs_I v 11 y.toInt32) := h
    exact yx_let (yx_seq (mx_N hfu he h' h6) fun r v q h h6 => yx_let (yx_some (ym_J h) h6))
  unfold jb_Model_ways_43
  exact yx_ite (fun _ => h59 _) fun _ => h59 _
theorem mx_w15 {n : Nat} {x y : Int64} (hfu : 20 ≤ fu) (he : ¬ e = 0) (h : ym_st B lim q v) (h6 : v.1 6 = e) : ym_X B lim e (jb_Model_ways_15 fu (n + 1) x y v) := by
  unfold jb_Model_ways_15
  refine yx_let (yx_ite (fun _ => mx_w43 hfu he h h6) fun _ => ?_)
  rw [if_neg (by rw [h6]; exact he)]
  exact mx_w43 hfu he h h6
theorem mx_ways (hfu : 20 ≤ fu) (he : ¬ e = 0) (h : ym_st B lim q v) (h6 : v.1 6 = e) : ym_X B lim e (fm_Model_ways fu v) := by
  obtain ⟨n, hn⟩ : ∃ n, fu = n + 1 := ⟨fu - 1, by omega⟩
  unfold fm_Model_ways
  refine yx_seq (mx_N hfu he h h6) fun r v q h h6 => yx_let ?_
  have h' : ym_st B lim q (xs_I v 10 (v.1 4)) := h
  conv => arg 4; arg 2; rw [hn]
  exact mx_w15 hfu he h' h6
theorem mm_ways (hfu : 20 ≤ fu) (hn : lim + 3 ≤ fu) (h : ym_st B lim p u) (h6 : u.1 6 = 0) (hy : u.2.1 1 = 0) : zC B lim p (fm_Model_ways fu u) (yp_imm B lim 114 p) (zJ B lim fun i _ v => v.2.1 0 = yb_m i.1 ∧ v.2.1 1 = i.2.1 ∧ v.1 10 = nI i.2.2.1 ∧ v.1 11 = nI i.2.2.2.length) := by
  unfold fm_Model_ways yp_imm
  rw [if_neg (by decide), if_neg (by decide), if_neg (by decide), if_neg (by decide), if_neg (by decide), if_neg (by decide), if_neg (by decide), if_pos rfl]
  refine zC_seq (zC_of h h6 (mm_N hfu h h6)) (fun N q b v e1 _ h h6 hb => ?_) fun k r v q h h6 => ?_
  · obtain ⟨rfl, q0, rfl⟩ := hb
    obtain ⟨hN, -, hq⟩ := yp_Nb e1
    simp only [xs_let]
    have h10 : (xs_I u 4 (nI q0)).1 4 = nI q := h.2.1
    rw [h10]
    have h' : ym_st B lim q (xs_I (xs_I u 4 (nI q0)) 10 (nI q)) := h
    have := zC_rep (B := B) (lim := lim) yp_N_eats' (fun _ v => v.1 10 = nI q ∧ v.2.1 1 = 0) N (fun n k v => jb_Model_ways_15 fu n (lN N) (lN k) v) (fun v => jb_Model_ways_43 fu (lN N) v) ?_ ?_ (lim - q + 1) [] q fu _ (by omega) (by omega) (Nat.zero_le _) (Nat.zero_le _) h' h6 ⟨if_pos rfl, hy⟩
    · refine zC_then this fun l r e3 e4 hj => ?_
      obtain ⟨v, e5, hv, h6, g10, gy⟩ := hj
      rw [e5]
      have hlen := yp_repl e3
      have hl2 := (yp_rep_eats yp_N_eats' e3).2
      have hle : l.length ≤ 8192 := by have := h.2.2.2.2; have := hl2.1 hq; omega
      have hl0 : N = l.length := by rw [hlen]; simp
      have e43 : jb_Model_ways_43 fu (lN N) v = jb_Model_ways_59 fu (lN N) v := by
        unfold jb_Model_ways_43
        by_cases hc : (8192 : Int64) ≤ lN N
        · rw [if_pos hc]
          have := (pk_lLE (a := 8192) (b := N) (by decide) (by omega)).mp hc
          rw [show N = 8192 by omega]; rfl
        · rw [if_neg hc]
      rw [e43]
      unfold jb_Model_ways_59
      simp only [xs_let]
      rw [lN_i]
      have hv' : ym_st B lim r (xs_I v 11 (nI N)) := hv
      refine zC_seq (zC_of hv' h6 (mm_N hfu hv' h6)) (fun m q' b w _ _ h h6 hb => ?_) fun k r v q h h6 => yx_let (yx_some (ym_J h) h6)
      obtain ⟨rfl, q2, rfl⟩ := hb
      refine zC_ok (Nat.le_refl _) ⟨_, _, rfl, h, h6, if_pos rfl, gy, g10, ?_⟩
      show nI N = _
      rw [hl0]
    · intro n k v hk hk2
      show jb_Model_ways_15 fu (n + 1) (lN N) (lN k) v = _
      unfold jb_Model_ways_15
      simp only [xs_let]
      rw [if_pos ((lN_leN hN hk2).mpr hk)]
    · intro n l p v hl hl2 hv h6 hI
      show zC B lim p (jb_Model_ways_15 fu (n + 2) (lN N) (lN l.length) v) _ _
      conv => arg 4; unfold jb_Model_ways_15
      simp only [xs_let]
      rw [if_neg (fun z => by have := (lN_leN hN hl2).mp z; omega), if_pos h6, lN_1]
      have e0 : yp_N B lim p = yp_then (yp_N B lim p) fun c q => .inl (c, q) := by
        generalize yp_N B lim p = s
        rcases s with ⟨a, b⟩ | k <;> rfl
      rw [e0]
      refine zC_seq (zC_of hv h6 (mm_N hfu hv h6)) (fun c q b w _ _ h h6 hb => ?_) fun k r v q h h6 => mx_w15 hfu ym_c0 (ym_J h) h6
      obtain ⟨rfl, q2, rfl⟩ := hb
      exact zC_ok (Nat.le_refl _) ⟨_, rfl, h, h6, hI⟩
  · obtain ⟨n, hn'⟩ : ∃ n, fu = n + 1 := ⟨fu - 1, by omega⟩
    have h' : ym_st B lim q (xs_I v 10 (v.1 4)) := h
    refine yx_let ?_
    conv => arg 4; arg 2; rw [hn']
    exact mx_w15 hfu ym_c0 h' h6
theorem mx_leaf {k : Nat} (hk : ¬ k = 9) (hfu : 20 ≤ fu) (he : ¬ e = 0) (h : ym_st B lim q v) (h6 : v.1 6 = e) : ym_X B lim e (ym_leaf fu v k) := by
  unfold ym_leaf
  split
  · exact yx_seq (mx_fail he h h6) fun r v q h h6 => yx_some h h6
  · exact yx_seq (mx_BT hfu he h h6) fun r v q h h6 => yx_let (yx_some (ym_J h) h6)
  · exact yx_seq (mx_N hfu he h h6) fun r v q h h6 => yx_let (yx_some (ym_J h) h6)
  · exact yx_seq (mx_ways hfu he h h6) fun r v q h h6 => yx_some h h6
  · exact yx_seq (mx_pair hfu he h h6) fun r v q h h6 => yx_some h h6
  · exact yx_seq (mx_want he h h6) fun r v q h h6 => yx_some h h6
  · exact yx_seq (mx_SX hfu he h h6) fun r v q h h6 => yx_let (yx_some (ym_J h) h6)
  · exact yx_seq (mx_SX hfu he h h6) fun r v q h h6 => yx_let (yx_some (ym_J h) h6)
  · exact yx_seq (mx_T hfu he h h6) fun r v q h h6 => yx_let (yx_some (ym_J h) h6)
  · exact absurd rfl hk
  · exact yx_seq (mx_fail he h h6) fun r v q h h6 => yx_some h h6
  · exact yx_some h h6
end
