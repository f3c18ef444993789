section
variable {α β γ δ : Type} {B : Nat → Int32} {u v w : xk_St} {lim p q fu : Nat} {e : Int32}
/-- a place: 0x00, a number, 0x0b -/
def yp_place (B : Nat → Int32) (lim p : Nat) : (Int64 × Nat) ⊕ Nat := yp_then (yp_want 0 B lim p) fun _ q => yp_then (yp_want 65 B lim q) fun _ q => yp_then (yp_S B lim 32 q) fun x q => yp_then (yp_want 11 B lim q) fun _ q => .inl (x, q)
theorem yp_want_eats {w : Int32} {a : Unit} (h : yp_want w B lim p = .inl (a, q)) : p < q ∧ q ≤ lim := by
  obtain ⟨b, r, h1, h2⟩ := yp_thenI h
  obtain ⟨-, rfl, h3⟩ := yp_bb h1
  split at h2
  · cases h2; omega
  · cases h2
theorem yp_place_eats {x : Int64} (h : yp_place B lim p = .inl (x, q)) : p < q ∧ q ≤ lim := by
  obtain ⟨_, r1, h1, h⟩ := yp_thenI h
  obtain ⟨_, r2, h2, h⟩ := yp_thenI h
  obtain ⟨x', r3, h3, h⟩ := yp_thenI h
  obtain ⟨_, r4, h4, h⟩ := yp_thenI h
  have := yp_want_eats h1
  have := yp_want_eats h2
  have := yp_S_eats h3
  have := yp_want_eats h4
  cases h
  omega
theorem hh_place (hfu : 20 ≤ fu) (h : yh_st B lim p u) : yh_R u lim p (fm_Reader_readPlace fu u) (yp_map (fun x => x &&& 4294967295) (yp_place B lim p)) := by
  unfold fm_Reader_readPlace yp_place
  simp only [yp_map_then, yp_map_l]
  refine yh_try (hh_want h) fun _ q _ h1 h2 => yh_base (x := nI q) ?_
  have h := yh_mv h h2
  refine yh_try (hh_want h) fun _ q _ h1 h2 => yh_base (x := nI q) ?_
  have h := yh_mv h h2
  refine yh_try (hh_S (w := 32) (by decide) hfu h) fun x q _ h1 h2 => yh_base (x := nI q) ?_
  have h := yh_mv h h2
  simp only [xs_let]
  exact yh_try (hh_want h) fun _ q _ h1 h2 => yh_ok (Nat.le_refl _) h2
theorem mx_place (hfu : 20 ≤ fu) (he : ¬ e = 0) (h : ym_st B lim q v) (h6 : v.1 6 = e) : ym_X B lim e (fm_Model_place fu v) := by
  unfold fm_Model_place
  refine yx_seq (mx_want he h h6) fun r v q h h6 => yx_seq (mx_want he h h6) fun r v q h h6 => yx_seq (mx_SX hfu he h h6) fun r v q h h6 => ?_
  exact yx_let (yx_seq (mx_want he (ym_J h) h6) fun r v q h h6 => yx_some h h6)
theorem mm_place (hfu : 20 ≤ fu) (h : ym_st B lim p u) (h6 : u.1 6 = 0) : zC B lim p (fm_Model_place fu u) (yp_place B lim p) (zJ B lim fun x _ v => v.2.1 0 = x) := by
  unfold fm_Model_place yp_place
  refine zC_seq (zC_of' h h6 (mm_want h h6)) (fun _ q _ v _ _ h h6 _ => ?_) fun k r v q h h6 => ?_
  · refine zC_seq (zC_of' h h6 (mm_want h h6)) (fun _ q _ v _ _ h h6 _ => ?_) fun k r v q h h6 => ?_
    · refine zC_seq (zC_of' h h6 (mm_S (w := 32) (by decide) hfu h h6)) (fun x q b v _ _ h h6 hb => ?_) fun k r v q h h6 => ?_
      · obtain ⟨rfl, -⟩ := hb
        have h' : ym_st B lim q (xs_J v 0 b) := h
        refine zC_seq (zC_of' h' h6 (mm_want h' h6)) (fun _ q _ w _ _ h h6 hb => ?_) fun k r v q h h6 => yx_some h h6
        obtain ⟨-, q', rfl⟩ := hb
        exact zC_ok (Nat.le_refl _) ⟨_, _, rfl, h, h6, rfl⟩
      · exact yx_let (yx_seq (mx_want ym_c0 (ym_J h) h6) fun r v q h h6 => yx_some h h6)
    · refine yx_seq (mx_SX hfu ym_c0 h h6) fun r v q h h6 => ?_
      exact yx_let (yx_seq (mx_want ym_c0 (ym_J h) h6) fun r v q h h6 => yx_some h h6)
  · refine yx_seq (mx_want ym_c0 h h6) fun r v q h h6 => yx_seq (mx_SX hfu ym_c0 h h6) fun r v q h h6 => ?_
    exact yx_let (yx_seq (mx_want ym_c0 (ym_J h) h6) fun r v q h h6 => yx_some h h6)
/-- limits -/
def yp_limits (B : Nat → Int32) (lim p : Nat) : ((Nat × Option Nat) × Nat) ⊕ Nat := yp_then (yp_flag B lim p) fun f q => yp_then (yp_N B lim q) fun n q => if f = 1 then yp_then (yp_N B lim q) fun m q => .inl ((n, some m), q) else .inl ((n, none), q)
theorem yp_limits_eats {a : Nat × Option Nat} (h : yp_limits B lim p = .inl (a, q)) : p < q ∧ q ≤ lim := by
  obtain ⟨f, r1, h1, ha⟩ := yp_thenI h
  obtain ⟨n, r2, h2, hb⟩ := yp_thenI ha
  obtain ⟨-, h0, h3⟩ := yp_fb h1
  have := yp_Nb h2
  split at hb
  · obtain ⟨m, r3, h4, hc⟩ := yp_thenI hb
    have := yp_Nb h4
    cases hc; omega
  · cases hb; omega
theorem nI_f1 {f : Nat} (h : f ≤ 1) : nI f = 1 ↔ f = 1 := by
  rw [show (1 : Int32) = nI 1 from rfl, nI_eq (by omega) (by decide)]
theorem mx_limits (hfu : 20 ≤ fu) (he : ¬ e = 0) (h : ym_st B lim q v) (h6 : v.1 6 = e) : ym_X B lim e (fm_Model_limits fu v) := by
  unfold fm_Model_limits
  refine yx_seq (mx_flag he h h6) fun r v q h h6 => yx_seq (mx_N hfu he h h6) fun r v q h h6 => yx_let (yx_ite (fun _ => ?_) fun _ => ?_)
  · exact yx_seq (mx_N hfu he (ym_J h) h6) fun r v q h h6 => yx_let (yx_some (ym_J h) h6)
  · exact yx_let (yx_some (ym_J (ym_J h)) h6)
/-- the limits as the reference notes them -/
def yl_y (m : Option Nat) : Int64 := match m with
  | none => -1
  | some m => lN m
theorem mm_limits (hfu : 20 ≤ fu) (h : ym_st B lim p u) (h6 : u.1 6 = 0) : zC B lim p (fm_Model_limits fu u) (yp_limits B lim p) (zJ B lim fun a _ v => v.2.1 0 = lN a.1 ∧ v.2.1 1 = yl_y a.2) := by
  unfold fm_Model_limits yp_limits
  refine zC_seq (zC_of h h6 (mm_flag h h6)) (fun f q b v e1 _ h h6 hb => ?_) fun k r v q h h6 => ?_
  · obtain ⟨rfl, -⟩ := hb
    have hf := (yp_fb e1).1
    refine zC_seq (zC_of h h6 (mm_N hfu h h6)) (fun n q b v _ _ h h6 hb => ?_) fun k r v q h h6 => ?_
    · obtain ⟨rfl, -⟩ := hb
      simp only [xs_let]
      have h' : ym_st B lim q (xs_J v 0 (lN n)) := h
      by_cases hc : f = 1
      · rw [if_pos ((nI_f1 hf).mpr hc), if_pos hc]
        refine zC_seq (zC_of h' h6 (mm_N hfu h' h6)) (fun m q b w _ _ h h6 hb => ?_) fun k r v q h h6 => yx_let (yx_some (ym_J h) h6)
        obtain ⟨rfl, q', rfl⟩ := hb
        exact zC_ok (Nat.le_refl _) ⟨_, _, rfl, h, h6, rfl, rfl⟩
      · rw [if_neg (fun z => hc ((nI_f1 hf).mp z)), if_neg hc]
        exact zC_ok (Nat.le_refl _) ⟨_, _, rfl, h, h6, rfl, rfl⟩
    · refine yx_let (yx_ite (fun _ => ?_) fun _ => ?_)
      · exact yx_seq (mx_N hfu ym_c0 (ym_J h) h6) fun r v q h h6 => yx_let (yx_some (ym_J h) h6)
      · exact yx_let (yx_some (ym_J (ym_J h)) h6)
  · refine yx_seq (mx_N hfu ym_c0 h h6) fun r v q h h6 => yx_let (yx_ite (fun _ => ?_) fun _ => ?_)
    · exact yx_seq (mx_N hfu ym_c0 (ym_J h) h6) fun r v q h h6 => yx_let (yx_some (ym_J h) h6)
    · exact yx_let (yx_some (ym_J (ym_J h)) h6)
/-- so many bytes that are there -/
def yp_bytes (B : Nat → Int32) (lim p : Nat) : ((Nat × Nat) × Nat) ⊕ Nat := yp_then (yp_N B lim p) fun n q => if n ≤ lim - q then .inl ((q, n), q + n) else .inr 0
theorem yp_bytes_eats {a : Nat × Nat} (h : yp_bytes B lim p = .inl (a, q)) : p < q ∧ q ≤ lim := by
  obtain ⟨n, r1, h1, h⟩ := yp_thenI h
  have := yp_Nb h1
  split at h
  · cases h; omega
  · cases h
theorem yn_sz {n : Nat} (hn : n < 2 ^ 32) (hq : q ≤ lim) (hl : lim ≤ 8192) : lN n ≤ (nI lim - nI q).toInt64 ↔ n ≤ lim - q := by
  rw [pk_sub hq, nI_l (by omega), pk_lLE (by omega) (by omega)]
theorem hh_size {L : Nat} (hfu : 20 ≤ fu) (hL : lim ≤ L) (hL2 : L ≤ 8192) (h : yh_st B lim p u) : yh_R u lim p (fm_Reader_readSize fu (nI L) u) (yp_map nI (yp_then (yp_N B lim p) fun n q => if n ≤ L - q then .inl (n, q) else .inr 0)) := by
  unfold fm_Reader_readSize
  rw [yp_map_then]
  have h0 := hh_U hfu h
  rw [yp_UN] at h0
  refine yh_tryM h0 fun n q hn h1 h2 => ?_
  obtain ⟨hb, -, -⟩ := yp_Nb hn
  rw [ys_Ig, yp_map_ite, lN_i]
  by_cases hc : n ≤ L - q
  · rw [if_pos hc, if_pos ((yn_sz hb (by omega) hL2).mpr hc)]
    exact yh_ok (Nat.le_refl _) h2
  · rw [if_neg hc, if_neg (fun z => hc ((yn_sz hb (by omega) hL2).mp z))]
    exact yh_no h2
theorem mx_b25 {x : Int64} (he : ¬ e = 0) (h : ym_st B lim q v) (h6 : v.1 6 = e) : ym_X B lim e (jb_Model_bytesForm_25 fu x v) := by
  unfold jb_Model_bytesForm_25
  rw [if_neg (by rw [h6]; exact he)]
  exact yx_some h h6
theorem mx_bytes (hfu : 20 ≤ fu) (he : ¬ e = 0) (h : ym_st B lim q v) (h6 : v.1 6 = e) : ym_X B lim e (fm_Model_bytesForm fu v) := by
  unfold fm_Model_bytesForm
  refine yx_seq (mx_N hfu he h h6) fun r v q h h6 => yx_ite (fun _ => mx_b25 he h h6) fun _ => ?_
  exact yx_seq (mx_fail he h h6) fun r v q h h6 => mx_b25 he h h6
theorem mm_bytes (hfu : 20 ≤ fu) (h : ym_st B lim p u) (h6 : u.1 6 = 0) : zC B lim p (fm_Model_bytesForm fu u) (yp_bytes B lim p) (zJ B lim fun _ _ _ => True) := by
  unfold fm_Model_bytesForm yp_bytes
  refine zC_seq (zC_of h h6 (mm_N hfu h h6)) (fun n q b v e1 _ h h6 hb => ?_) fun k r v q h h6 => ?_
  · obtain ⟨rfl, -⟩ := hb
    obtain ⟨hb, -, hq⟩ := yp_Nb e1
    rw [h.2.1, h.2.2.1]
    by_cases hc : n ≤ lim - q
    · rw [if_pos hc, if_pos ((yn_sz hb hq h.2.2.2.2).mpr hc)]
      unfold jb_Model_bytesForm_25
      rw [if_pos h6, h.2.1, lN_i, nI_add]
      exact zC_ok (by omega) ⟨_, _, rfl, ym_mv h (by omega), h6, trivial⟩
    · rw [if_neg hc, if_neg (fun z => hc ((yn_sz hb hq h.2.2.2.2).mp z))]
      exact zC_no (yx_seq (mm_fail h h6) fun r v q h h6 => mx_b25 (by decide) h h6)
  · refine yx_ite (fun _ => mx_b25 ym_c0 h h6) fun _ => ?_
    exact yx_seq (mx_fail ym_c0 h h6) fun r v q h h6 => mx_b25 ym_c0 h h6
/-- a global's first value -/
def yp_const (B : Nat → Int32) (lim p : Nat) : ((Nat × Int64) × Nat) ⊕ Nat :=
  yp_then (yp_byte B lim p) fun b q =>
    if b = 65 then yp_then (yp_S B lim 32 q) fun x q => yp_then (yp_want 11 B lim q) fun _ q => .inl ((1, x), q)
    else if b = 66 then yp_then (yp_S B lim 64 q) fun x q => yp_then (yp_want 11 B lim q) fun _ q => .inl ((2, x), q)
    else if b = 208 then yp_then (yp_T B lim q) fun t q => yp_then (yp_want 11 B lim q) fun _ q => .inl ((16 + 2 * t + 1, 0), q)
    else .inr 0
theorem mx_c84 {x : Int32} (he : ¬ e = 0) (h : ym_st B lim q v) (h6 : v.1 6 = e) : ym_X B lim e (jb_Model_constant_84 fu x v) := by
  unfold jb_Model_constant_84
  exact yx_seq (mx_want he h h6) fun r v q h h6 => yx_some h h6
theorem mx_c39 {x s : Int32} (hfu : 20 ≤ fu) (he : ¬ e = 0) (h : ym_st B lim q v) (h6 : v.1 6 = e) : ym_X B lim e (jb_Model_constant_39 fu x s v) := by
  unfold jb_Model_constant_39 jb_Model_constant_56
  refine yx_seq (mx_SX hfu he h h6) fun r v q h h6 => yx_let (yx_ite (fun _ => ?_) fun _ => ?_)
  · exact mx_c84 he (ym_J h) h6
  · exact mx_c84 he (ym_J h) h6
theorem mx_const (hfu : 20 ≤ fu) (he : ¬ e = 0) (h : ym_st B lim q v) (h6 : v.1 6 = e) : ym_X B lim e (fm_Model_constant fu v) := by
  unfold fm_Model_constant jb_Model_constant_24
  refine yx_seq (mx_one he h h6) fun r v q h h6 => yx_let ?_
  have h := ym_J (k := 0) (x := 0) h
  refine yx_ite (fun _ => yx_ite (fun _ => mx_c39 hfu he h h6) fun _ => mx_c39 hfu he h h6) fun _ => yx_ite (fun _ => yx_ite (fun _ => mx_c39 hfu he h h6) fun _ => mx_c39 hfu he h h6) fun _ => yx_ite (fun _ => ?_) fun _ => ?_
  · refine yx_seq (mx_T hfu he h h6) fun r v q h h6 => ?_
    unfold fm_Model_reference
    rw [if_neg (by decide), ys_seq]
    exact mx_c84 he h h6
  · exact yx_seq (mx_fail he h h6) fun r v q h h6 => mx_c84 he h h6
theorem mm_c39 {c : Nat} {b : Int32} {w : Nat} (hw : 0 < w ∧ w ≤ 64) (hb : (if b = 65 then (1 : Int32) else 2) = nI c) (hfu : 20 ≤ fu) (h : ym_st B lim p u) (h6 : u.1 6 = 0) : zC B lim p (jb_Model_constant_39 fu b (nI w) u) (yp_then (yp_S B lim w p) fun x q => yp_then (yp_want 11 B lim q) fun _ q => .inl ((c, x), q)) (zJ B lim fun a b v => b = nI a.1 ∧ v.2.1 0 = a.2) := by
  unfold jb_Model_constant_39 jb_Model_constant_56 jb_Model_constant_84
  refine zC_seq (zC_of' h h6 (mm_S hw hfu h h6)) (fun x q y v _ _ h h6 hy => ?_) fun k r v q h h6 => yx_let (yx_ite (fun _ => ?_) fun _ => ?_)
  · obtain ⟨rfl, -⟩ := hy
    simp only [xs_let]
    have h' : ym_st B lim q (xs_J v 0 y) := h
    have hs : (if b = 65 then (xs_seq (fm_Model_needs 11 (xs_J v 0 y)) fun _ u7 => some ((1 : Int32), u7)) else (xs_seq (fm_Model_needs 11 (xs_J v 0 y)) fun _ u7 => some ((2 : Int32), u7))) = xs_seq (fm_Model_needs 11 (xs_J v 0 y)) fun _ u7 => some (nI c, u7) := by
      rw [← hb]
      by_cases hc : b = 65
      · rw [if_pos hc, if_pos hc]
      · rw [if_neg hc, if_neg hc]
    rw [hs]
    refine zC_seq (zC_of' h' h6 (mm_want h' h6)) (fun _ q _ w _ _ h h6 hb => ?_) fun k r v q h h6 => yx_some h h6
    obtain ⟨-, q', rfl⟩ := hb
    exact zC_ok (Nat.le_refl _) ⟨_, _, rfl, h, h6, rfl, rfl⟩
  · exact yx_seq (mx_want ym_c0 (ym_J h) h6) fun r v q h h6 => yx_some h h6
  · exact yx_seq (mx_want ym_c0 (ym_J h) h6) fun r v q h h6 => yx_some h h6
theorem mm_const (hfu : 20 ≤ fu) (h : ym_st B lim p u) (h6 : u.1 6 = 0) : zC B lim p (fm_Model_constant fu u) (yp_const B lim p) (zJ B lim fun a b v => b = nI a.1 ∧ v.2.1 0 = a.2) := by
  unfold fm_Model_constant yp_const jb_Model_constant_24
  refine zC_seq (zC_of' h h6 (mm_one h h6)) (fun a q b v _ _ h h6 hb => ?_) fun k r v q h h6 => ?_
  · obtain ⟨rfl, -⟩ := hb
    simp only [xs_let]
    have h' : ym_st B lim q (xs_J v 0 0) := h
    refine zC_ite (fun hb => ?_) fun _ => zC_ite (fun hb => ?_) fun _ => zC_ite (fun hb => ?_) fun _ => ?_
    · rw [if_pos hb]
      exact mm_c39 (w := 32) (by decide) (by rw [if_pos hb]; rfl) hfu h' h6
    · rw [if_neg (by rw [hb]; decide)]
      exact mm_c39 (w := 64) (by decide) (by rw [if_neg (by rw [hb]; decide)]; rfl) hfu h' h6
    · refine zC_seq (zC_of h' h6 (mm_T hfu h' h6)) (fun t q c v _ _ h h6 hc => ?_) fun k r v q h h6 => ?_
      · obtain ⟨rfl, q', rfl⟩ := hc
        rw [mm_refn]
        simp only [ys_seq]
        unfold jb_Model_constant_84
        refine zC_seq (zC_of' h h6 (mm_want h h6)) (fun _ q _ w _ _ h h6 hb => ?_) fun k r v q h h6 => yx_some h h6
        obtain ⟨-, q', rfl⟩ := hb
        exact zC_ok (Nat.le_refl _) ⟨_, _, rfl, h, h6, rfl, rfl⟩
      · unfold fm_Model_reference
        rw [if_neg (by decide), ys_seq]
        exact mx_c84 ym_c0 h h6
    · exact zC_no (yx_seq (mm_fail h' h6) fun r v q h h6 => mx_c84 (by decide) h h6)
  · have h := ym_J (k := 0) (x := 0) h
    refine yx_let (yx_ite (fun _ => yx_ite (fun _ => mx_c39 hfu ym_c0 h h6) fun _ => mx_c39 hfu ym_c0 h h6) fun _ => yx_ite (fun _ => yx_ite (fun _ => mx_c39 hfu ym_c0 h h6) fun _ => mx_c39 hfu ym_c0 h h6) fun _ => yx_ite (fun _ => ?_) fun _ => ?_)
    · refine yx_seq (mx_T hfu ym_c0 h h6) fun r v q h h6 => ?_
      unfold fm_Model_reference
      rw [if_neg (by decide), ys_seq]
      exact mx_c84 ym_c0 h h6
    · exact yx_seq (mx_fail ym_c0 h h6) fun r v q h h6 => mx_c84 ym_c0 h h6
end
