section
variable {α β γ δ : Type} {B : Nat → Int32} {u v w : xk_St} {lim p q fu : Nat} {e : Int32}
theorem yp_N_eats' : yp_eats lim (yp_N B lim) := fun _ _ _ h => (yp_Nb h).2
theorem mx_pair (hfu : 20 ≤ fu) (he : ¬ e = 0) (h : ym_st B lim q v) (h6 : v.1 6 = e) : ym_X B lim e (fm_Model_pair fu v) := by
  unfold fm_Model_pair
  refine yx_seq (mx_N hfu he h h6) fun r v q h h6 => yx_let (yx_seq (mx_N hfu he (ym_J h) h6) fun r v q h h6 => yx_let (yx_some (ym_J h) h6))
theorem mx_w43 {x : Int64} (hfu : 20 ≤ fu) (he : ¬ e = 0) (h : ym_st B lim q v) (h6 : v.1 6 = e) : ym_X B lim e (jb_Model_ways_43 fu x v) := by
  have h59 : ∀ y : Int64, ym_X B lim e (jb_Model_ways_59 fu y v) := fun y => by
    unfold jb_Model_ways_59
    have h' : ym_st B lim q (xs_I v 11 y.toInt32) := h
    exact yx_let (yx_seq (mx_N hfu he h' h6) fun r v q h h6 => yx_let (yx_some (ym_J h) h6))
  unfold jb_Model_ways_43
  exact yx_ite (fun _ => h59 _) fun _ => h59 _
theorem mx_w15 {n : Nat} {x y : Int64} (hfu : 20 ≤ fu) (he : ¬ e = 0) (h : ym_st B lim q v) (h6 : v.1 6 = e) : ym_X B lim e (jb_Model_ways_15 fu (n + 1) x y v) := by
  unfold jb_Model_ways_15
  refine yx_let (yx_ite (fun _ => mx_w43 hfu he h h6) fun _ => ?_)
  rw [if_neg (by rw [h6]; exact he)]
  exact mx_w43 hfu he h h6
theorem mx_ways (hfu : 20 ≤ fu) (he : ¬ e = 0) (h : ym_st B lim q v) (h6 : v.1 6 = e) : ym_X B lim e (fm_Model_ways fu v) := by
  obtain ⟨n, hn⟩ : ∃ n, fu = n + 1 := ⟨fu - 1, by omega⟩
  unfold fm_Model_ways
  refine yx_seq (mx_N hfu he h h6) fun r v q h h6 => yx_let ?_
  have h' : ym_st B lim q (xs_I v 10 (v.1 4)) := h
  conv => arg 4; arg 2; rw [hn]
  exact mx_w15 hfu he h' h6
theorem mm_ways (hfu : 20 ≤ fu) (hn : lim + 3 ≤ fu) (h : ym_st B lim p u) (h6 : u.1 6 = 0) (hy : u.2.1 1 = 0) : zC B lim p (fm_Model_ways fu u) (yp_imm B lim 114 p) (zJ B lim fun i _ v => v.2.1 0 = yb_m i.1 ∧ v.2.1 1 = i.2.1 ∧ v.1 10 = nI i.2.2.1 ∧ v.1 11 = nI i.2.2.2.length ∧ v.1 8 = u.1 8 ∧ v.1 9 = u.1 9) := by
  unfold fm_Model_ways yp_imm
  rw [if_neg (by decide), if_neg (by decide), if_neg (by decide), if_neg (by decide), if_neg (by decide), if_neg (by decide), if_neg (by decide), if_pos rfl]
  refine zC_seq (zC_of h h6 (mm_N hfu h h6)) (fun N q b v e1 _ h h6 hb => ?_) fun k r v q h h6 => ?_
  · obtain ⟨rfl, q0, rfl⟩ := hb
    obtain ⟨hN, -, hq⟩ := yp_Nb e1
    simp only [xs_let]
    have h10 : (xs_I u 4 (nI q0)).1 4 = nI q := h.2.1
    rw [h10]
    have h' : ym_st B lim q (xs_I (xs_I u 4 (nI q0)) 10 (nI q)) := h
    have := zC_rep (B := B) (lim := lim) (lim2 := lim) (it := yp_N B lim) yp_N_eats' (fun _ v => v.1 10 = nI q ∧ v.2.1 1 = 0 ∧ v.1 8 = u.1 8 ∧ v.1 9 = u.1 9) N (fun n k v => jb_Model_ways_15 fu n (lN N) (lN k) v) (fun v => jb_Model_ways_43 fu (lN N) v) ?_ ?_ (lim - q + 1) [] q fu _ (by omega) (by omega) (Nat.zero_le _) (Nat.zero_le _) h' h6 ⟨rfl, hy, rfl, rfl⟩
    · refine zC_then this fun l r e3 e4 hj => ?_
      obtain ⟨v, e5, hv, h6, g10, gy, g8, g9⟩ := hj
      rw [e5]
      have hlen := yp_repl e3
      have hl2 := (yp_rep_eats yp_N_eats' e3).2
      have hle : l.length ≤ 8192 := by have := h.2.2.2.2; have := hl2.1 hq; omega
      have hl0 : N = l.length := by rw [hlen]
      have e43 : jb_Model_ways_43 fu (lN N) v = jb_Model_ways_59 fu (lN N) v := by
        unfold jb_Model_ways_43
        by_cases hc : (8192 : Int64) ≤ lN N
        · rw [if_pos hc]
          have := (pk_lLE (a := 8192) (b := N) (by decide) (by omega)).mp hc
          rw [show N = 8192 by omega]; rfl
        · rw [if_neg hc]
      rw [e43]
      unfold jb_Model_ways_59
      simp only [xs_let]
      rw [lN_i]
      have hv' : ym_st B lim r (xs_I v 11 (nI N)) := hv
      refine zC_seq (zC_of hv' h6 (mm_N hfu hv' h6)) (fun m q' b w _ _ h h6 hb => ?_) fun k r v q h h6 => yx_let (yx_some (ym_J h) h6)
      obtain ⟨rfl, q2, rfl⟩ := hb
      refine zC_ok (Nat.le_refl _) ⟨_, _, rfl, h, h6, rfl, gy, g10, ?_, g8, g9⟩
      show nI N = _
      rw [hl0]
    · intro n k v hk hk2
      show jb_Model_ways_15 fu (n + 1) (lN N) (lN k) v = _
      unfold jb_Model_ways_15
      simp only [xs_let]
      rw [if_pos ((lN_leN hN hk2).mpr hk)]
    · intro n l p v hl hl2 hv h6 hI
      show zC B lim p (jb_Model_ways_15 fu (n + 2) (lN N) (lN l.length) v) _ _
      conv => arg 4; unfold jb_Model_ways_15
      simp only [xs_let]
      rw [if_neg (fun z => by have := (lN_leN hN hl2).mp z; omega), if_pos h6, lN_1]
      have e0 : yp_N B lim p = yp_then (yp_N B lim p) fun c q => .inl (c, q) := by
        generalize yp_N B lim p = s
        rcases s with ⟨a, b⟩ | k <;> rfl
      rw [e0]
      refine zC_seq (zC_of hv h6 (mm_N hfu hv h6)) (fun c q b w _ _ h h6 hb => ?_) fun k r v q h h6 => mx_w15 hfu ym_c0 (ym_J h) h6
      obtain ⟨rfl, q2, rfl⟩ := hb
      exact zC_ok (Nat.le_refl _) ⟨_, rfl, h, h6, hI⟩
  · obtain ⟨n, hn'⟩ : ∃ n, fu = n + 1 := ⟨fu - 1, by omega⟩
    have h' : ym_st B lim q (xs_I v 10 (v.1 4)) := h
    refine yx_let ?_
    conv => arg 4; arg 2; rw [hn']
    exact mx_w15 hfu ym_c0 h' h6
theorem mx_leaf {k : Nat} (hk : ¬ k = 9) (hfu : 20 ≤ fu) (he : ¬ e = 0) (h : ym_st B lim q v) (h6 : v.1 6 = e) : ym_X B lim e (ym_leaf fu v k) := by
  unfold ym_leaf
  split
  · exact yx_seq (mx_fail he h h6) fun r v q h h6 => yx_some h h6
  · exact yx_seq (mx_BT hfu he h h6) fun r v q h h6 => yx_let (yx_some (ym_J h) h6)
  · exact yx_seq (mx_N hfu he h h6) fun r v q h h6 => yx_let (yx_some (ym_J h) h6)
  · exact yx_seq (mx_ways hfu he h h6) fun r v q h h6 => yx_some h h6
  · exact yx_seq (mx_pair hfu he h h6) fun r v q h h6 => yx_some h h6
  · exact yx_seq (mx_want he h h6) fun r v q h h6 => yx_some h h6
  · exact yx_seq (mx_SX hfu he h h6) fun r v q h h6 => yx_let (yx_some (ym_J h) h6)
  · exact yx_seq (mx_SX hfu he h h6) fun r v q h h6 => yx_let (yx_some (ym_J h) h6)
  · exact yx_seq (mx_T hfu he h h6) fun r v q h h6 => yx_let (yx_some (ym_J h) h6)
  · exact absurd rfl hk
  · exact yx_seq (mx_fail he h h6) fun r v q h h6 => yx_some h h6
  · exact yx_some h h6
/-- what follows an instruction, read by the reference -/
def yi_imm (s : Int32) (u : xk_St) (i : (Option Nat ⊕ Int64) × Int64 × Nat × List Nat) (v : xk_St) : Prop := v.2.1 0 = yb_m i.1 ∧ v.2.1 1 = i.2.1 ∧ (s = 114 → v.1 10 = nI i.2.2.1 ∧ v.1 11 = nI i.2.2.2.length) ∧ v.1 8 = u.1 8 ∧ v.1 9 = u.1 9
theorem mm_leaf {s : Int32} (hfu : 20 ≤ fu) (hn : lim + 3 ≤ fu) (h : ym_st B lim p u) (h6 : u.1 6 = 0) (hx : u.2.1 0 = 0) (hy : u.2.1 1 = 0) : zC B lim p (ym_leaf fu u (yr_cs s)) (yp_imm B lim s p) (zJ B lim fun i _ v => yi_imm s u i v) := by
  have h0 : ∀ s : Int32, ¬ s = 114 → zC B lim p (some ((), u)) (.inl ((.inr 0, 0, 0, []), p)) (zJ B lim fun i _ v => yi_imm s u i v) := fun s hs => zC_ok (Nat.le_refl _) ⟨_, _, rfl, h, h6, hx, hy, fun z => absurd z hs, rfl, rfl⟩
  have e0 : ∀ o : Option (Unit × xk_St), (xs_seq o fun _ v => some ((), v)) = o := fun o => by rcases o with _ | ⟨a, b⟩ <;> rfl
  unfold yr_cs yp_imm
  by_cases c1 : s = 45
  · rw [if_pos c1, if_pos c1]
    exact zC_no (yx_seq (mm_fail h h6) fun r v q h h6 => yx_some h h6)
  rw [if_neg c1, if_neg c1]
  by_cases c2 : s = 46
  · rw [if_pos c2, if_pos c2]
    exact h0 s (by rw [c2]; decide)
  rw [if_neg c2, if_neg c2]
  by_cases c3 : s = 98
  · rw [if_pos c3, if_pos c3]
    show zC B lim p (xs_seq (fm_Model_blockTypeHere fu u) fun a v => xs_let (xs_J v 0 a) fun w => some ((), w)) _ _
    refine zC_seq (zC_of h h6 (mm_BT hfu h h6)) (fun t q b v _ _ h h6 hb => ?_) fun k r v q h h6 => yx_let (yx_some (ym_J h) h6)
    obtain ⟨rfl, q', rfl⟩ := hb
    exact zC_ok (Nat.le_refl _) ⟨_, _, rfl, h, h6, rfl, hy, fun z => absurd z (by rw [c3]; decide), rfl, rfl⟩
  rw [if_neg c3, if_neg c3]
  by_cases c4 : s = 101
  · rw [if_pos c4, if_pos c4]
    exact h0 s (by rw [c4]; decide)
  rw [if_neg c4, if_neg c4]
  by_cases c5 : s = 105
  · rw [if_pos c5, if_pos c5]
    show zC B lim p (xs_seq (fm_Model_signed fu (nI 32) u) fun a v => xs_let (xs_J v 0 a) fun w => some ((), w)) _ _
    refine zC_seq (zC_of' h h6 (mm_S (w := 32) (by decide) hfu h h6)) (fun t q b v _ _ h h6 hb => ?_) fun k r v q h h6 => yx_let (yx_some (ym_J h) h6)
    obtain ⟨rfl, q', rfl⟩ := hb
    exact zC_ok (Nat.le_refl _) ⟨_, _, rfl, h, h6, rfl, hy, fun z => absurd z (by rw [c5]; decide), rfl, rfl⟩
  rw [if_neg c5, if_neg c5]
  by_cases c6 : s = 108
  · rw [if_pos c6, if_pos c6]
    show zC B lim p (xs_seq (fm_Model_signed fu (nI 64) u) fun a v => xs_let (xs_J v 0 a) fun w => some ((), w)) _ _
    refine zC_seq (zC_of' h h6 (mm_S (w := 64) (by decide) hfu h h6)) (fun t q b v _ _ h h6 hb => ?_) fun k r v q h h6 => yx_let (yx_some (ym_J h) h6)
    obtain ⟨rfl, q', rfl⟩ := hb
    exact zC_ok (Nat.le_refl _) ⟨_, _, rfl, h, h6, rfl, hy, fun z => absurd z (by rw [c6]; decide), rfl, rfl⟩
  rw [if_neg c6, if_neg c6]
  by_cases c7 : s = 110
  · rw [if_pos c7, if_pos c7]
    exact h0 s (by rw [c7]; decide)
  rw [if_neg c7, if_neg c7]
  by_cases c8 : s = 114
  · subst c8
    rw [if_pos rfl, if_pos rfl]
    have hw := mm_ways hfu hn h h6 hy
    unfold yp_imm at hw
    rw [if_neg (by decide), if_neg (by decide), if_neg (by decide), if_neg (by decide), if_neg (by decide), if_neg (by decide), if_neg (by decide), if_pos rfl] at hw
    show zC B lim p (xs_seq (fm_Model_ways fu u) fun _ v => some ((), v)) _ _
    rw [e0]
    refine zC_mono hw fun i q _ _ hj => ?_
    obtain ⟨b, v, f1, f2, f3, f4⟩ := hj
    exact ⟨b, v, f1, f2, f3, f4.1, f4.2.1, fun _ => ⟨f4.2.2.1, f4.2.2.2.1⟩, f4.2.2.2.2.1, f4.2.2.2.2.2⟩
  rw [if_neg c8, if_neg c8]
  by_cases c9 : s = 116
  · rw [if_pos c9, if_pos c9]
    show zC B lim p (xs_seq (fm_Model_target fu u) fun a v => xs_let (xs_J v 0 a.toInt64) fun w => some ((), w)) _ _
    refine zC_seq (zC_of h h6 (mm_T hfu h h6)) (fun t q b v e1 _ h h6 hb => ?_) fun k r v q h h6 => yx_let (yx_some (ym_J h) h6)
    obtain ⟨rfl, q', rfl⟩ := hb
    have ht := yp_Tb e1
    refine zC_ok (Nat.le_refl _) ⟨_, _, rfl, h, h6, ?_, hy, fun z => absurd z (by rw [c9]; decide), rfl, rfl⟩
    show (nI t).toInt64 = _
    rw [nI_l (by omega)]; rfl
  rw [if_neg c9, if_neg c9]
  by_cases c10 : s = 117
  · rw [if_pos c10, if_pos c10]
    show zC B lim p (xs_seq (fm_Model_number fu u) fun a v => xs_let (xs_J v 0 a) fun w => some ((), w)) _ _
    refine zC_seq (zC_of h h6 (mm_N hfu h h6)) (fun t q b v _ _ h h6 hb => ?_) fun k r v q h h6 => yx_let (yx_some (ym_J h) h6)
    obtain ⟨rfl, q', rfl⟩ := hb
    exact zC_ok (Nat.le_refl _) ⟨_, _, rfl, h, h6, rfl, hy, fun z => absurd z (by rw [c10]; decide), rfl, rfl⟩
  rw [if_neg c10, if_neg c10]
  by_cases c11 : s = 119
  · rw [if_pos c11, if_pos c11]
    show zC B lim p (xs_seq (fm_Model_pair fu u) fun _ v => some ((), v)) _ _
    rw [e0]
    unfold fm_Model_pair
    refine zC_seq (zC_of h h6 (mm_N hfu h h6)) (fun n q b v _ _ h h6 hb => ?_) fun k r v q h h6 => yx_let (yx_seq (mx_N hfu ym_c0 (ym_J h) h6) fun r v q h h6 => yx_let (yx_some (ym_J h) h6))
    obtain ⟨rfl, q', rfl⟩ := hb
    simp only [xs_let]
    have h' : ym_st B lim q (xs_J (xs_I u 4 (nI q')) 0 (lN n)) := h
    refine zC_seq (zC_of h' h6 (mm_N hfu h' h6)) (fun m q b v _ _ h h6 hb => ?_) fun k r v q h h6 => yx_some (ym_J h) h6
    obtain ⟨rfl, q2, rfl⟩ := hb
    exact zC_ok (Nat.le_refl _) ⟨_, _, rfl, h, h6, rfl, rfl, fun z => absurd z (by rw [c11]; decide), rfl, rfl⟩
  rw [if_neg c11, if_neg c11]
  by_cases c12 : s = 122
  · rw [if_pos c12, if_pos c12]
    show zC B lim p (xs_seq (fm_Model_needs (0 : Int32) u) fun _ v => some ((), v)) _ _
    refine zC_seq (zC_of' h h6 (mm_want h h6)) (fun t q b v _ _ h h6 hb => ?_) fun k r v q h h6 => yx_some h h6
    obtain ⟨-, q', rfl⟩ := hb
    exact zC_ok (Nat.le_refl _) ⟨_, _, rfl, h, h6, hx, hy, fun z => absurd z (by rw [c12]; decide), rfl, rfl⟩
  rw [if_neg c12, if_neg c12]
  exact zC_no (yx_seq (mm_fail h h6) fun r v q h h6 => yx_some h h6)
/-- an instruction, read by the reference -/
theorem yr_leaf9 {k : Nat} {s : Int32} (h : k = yr_cs s) : ¬ k = 9 := by
  subst h
  unfold yr_cs
  repeat' split
  all_goals decide
def yi_ins (i : Nat × (Option Nat ⊕ Int64) × Int64 × Nat × List Nat) (v : xk_St) : Prop :=
  v.2.1 0 = yb_m i.2.1 ∧ v.2.1 1 = i.2.2.1 ∧ (i.1 = 14 → v.1 10 = nI i.2.2.2.1 ∧ v.1 11 = nI i.2.2.2.2.length) ∧ v.1 8 = nI (if i.1 < 256 then i.1 else 251) ∧ v.1 9 = nI (if i.1 < 256 then 0 else i.1 - 256)
theorem mx_ins (hfu : 20 ≤ fu) (he : ¬ e = 0) (h : ym_st B lim q v) (h6 : v.1 6 = e) : ym_X B lim e (fm_Model_instruction fu v) := by
  rw [mm_dis]
  refine yx_seq (mx_one he h h6) fun r v q h h6 => ?_
  have h' : ym_st B lim q (ym_i6 r v) := h
  have h6' : (ym_i6 r v).1 6 = e := h6
  rw [if_neg (by rw [h6']; exact he)]
  exact yx_some h' h6'
theorem yr_114 : ∀ j, j < 256 → (xt_S j = 114 ↔ j = 14) := by decide +kernel
theorem yr_114' : ∀ j, j < 31 → ¬ xt_S (256 + j) = 114 := by decide +kernel
theorem mm_ins (hfu : 20 ≤ fu) (hn : lim + 3 ≤ fu) (h : ym_st B lim p u) (h6 : u.1 6 = 0) : zC B lim p (fm_Model_instruction fu u) (yp_ins B lim p) (zJ B lim fun i _ v => yi_ins i v) := by
  rw [mm_dis]
  unfold yp_ins
  refine zC_seq (zC_of' h h6 (mm_one h h6)) (fun a q b v e1 _ h h6 hb => ?_) fun k r v q h h6 => ?_
  · obtain ⟨rfl, q', rfl⟩ := hb
    obtain ⟨⟨j, hj, rfl⟩, rfl, -⟩ := yp_bb e1
    have h' : ym_st B lim (p + 1) (ym_i6 (nI j) (xs_I u 4 (nI q'))) := h
    have h6' : (ym_i6 (nI j) (xs_I u 4 (nI q'))).1 6 = 0 := h6
    rw [if_pos h6', nI_clamp (by omega)]
    by_cases h251 : j = 251
    · subst h251
      rw [if_pos (show nI 251 = (251 : Int32) from rfl), yr_251]
      show zC B lim (p + 1) (xs_seq (fm_Model_object fu (ym_i6 (nI 251) (xs_I u 4 (nI q')))) fun _ v => some ((), v)) _ _
      have e0 : ∀ o : Option (Unit × xk_St), (xs_seq o fun _ v => some ((), v)) = o := fun o => by rcases o with _ | ⟨a, b⟩ <;> rfl
      rw [e0, mm_obj]
      refine zC_seq (zC_of h' h6' (mm_N hfu h' h6')) (fun n q b v e2 _ h h6 hb => ?_) fun k r v q h h6 => ?_
      · obtain ⟨rfl, q2, rfl⟩ := hb
        have hn32 := (yp_Nb e2).1
        rw [if_pos h6]
        by_cases h30 : n ≤ 30
        · rw [if_pos h30, if_pos (show lN n ≤ (30 : Int64) from (pk_lLE (b := 30) (by omega) (by decide)).mpr h30), lN_i, yr_all2 n (by omega)]
          have h3 : ym_st B lim q (xs_I (xs_I (ym_i6 (nI 251) (xs_I u 4 (nI q'))) 4 (nI q2)) 9 (nI n)) := h
          refine zC_then (mm_leaf hfu hn h3 h6 rfl rfl) fun i q _ _ hj => ?_
          obtain ⟨b, w, f1, f2, f3, f4⟩ := hj
          refine zC_ok (Nat.le_refl _) ⟨b, w, f1, f2, f3, f4.1, f4.2.1, fun z => ?_, ?_, ?_⟩
          · have : 256 + n = 14 := z
            omega
          · rw [f4.2.2.2.1, if_neg (show ¬ 256 + n < 256 by omega)]; rfl
          · rw [f4.2.2.2.2, if_neg (show ¬ 256 + n < 256 by omega), show 256 + n - 256 = n by omega]; rfl
        · rw [if_neg h30, if_neg (show ¬ lN n ≤ (30 : Int64) from fun z => h30 ((pk_lLE (b := 30) (by omega) (by decide)).mp z))]
          exact zC_no (yx_seq (mm_fail h h6) fun r v q h h6 => yx_some h h6)
      · rw [if_neg (by rw [h6]; exact ym_c0)]
        exact yx_some h h6
    · rw [if_neg (show ¬ nI j = (251 : Int32) from fun z => h251 ((nI_eq (a := j) (b := 251) (by omega) (by decide)).mp z)), yr_all j hj h251]
      refine zC_then (mm_leaf hfu hn h' h6' rfl rfl) fun i q _ _ hj2 => ?_
      obtain ⟨b, w, f1, f2, f3, f4⟩ := hj2
      refine zC_ok (Nat.le_refl _) ⟨b, w, f1, f2, f3, f4.1, f4.2.1, fun z => f4.2.2.1 ((yr_114 j hj).mpr z), ?_, ?_⟩
      · rw [f4.2.2.2.1, if_pos (show j < 256 from hj)]; rfl
      · rw [f4.2.2.2.2, if_pos (show j < 256 from hj)]; rfl
  · have h' : ym_st B lim q (ym_i6 r v) := h
    have h6' : (ym_i6 r v).1 6 = ym_c k := h6
    rw [if_neg (by rw [h6']; exact ym_c0)]
    exact yx_some h' h6'
end
