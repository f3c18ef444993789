section
variable {α β γ δ : Type} {B : Nat → Int32} {u v w : xk_St} {lim p q fu : Nat} {e : Int32}
theorem ya_t {f : Nat → Int32} {t : Nat} {x : Int32} : upd f t x t = x := if_pos rfl
theorem ya_j {f : Nat → Int32} {t j : Nat} {x : Int32} (h : ¬ j = t) : upd f t x j = f j := if_neg h
theorem yb_t {f : Nat → Int64} {t : Nat} {x : Int64} : vp_updL f t x t = x := if_pos rfl
theorem yb_j {f : Nat → Int64} {t j : Nat} {x : Int64} (h : ¬ j = t) : vp_updL f t x j = f j := if_neg h
/-- a row of bytes that is passed -/
theorem hh_pass {t : Nat} (ht : t ≤ 64) (hfu : 20 ≤ fu) (h : yh_st B lim p u) : yC p (fm_Reader_passBytes fu (nI t) u) (yp_bytes B lim p) (yJ B lim fun a _ v => ∃ q, v = xs_I (xs_A (xs_A (xs_I u 17 (nI a.1)) 31 t (nI a.1)) 32 t (nI a.2)) 17 (nI q)) := by
  unfold fm_Reader_passBytes yp_bytes
  have hz := hh_size (fu := fu) (L := lim) hfu (Nat.le_refl _) h.2.2.2.2 h
  rw [h.2.2.1]
  have e0 : (yp_then (yp_N B lim p) fun n q => if n ≤ lim - q then (.inl ((q, n), q + n) : ((Nat × Nat) × Nat) ⊕ Nat) else .inr 0) = yp_then (yp_then (yp_N B lim p) fun n q => if n ≤ lim - q then (.inl (n, q) : (Nat × Nat) ⊕ Nat) else .inr 0) fun n q => .inl ((q, n), q + n) := by
    rw [yp_then_then]
    congr 1
    funext n q
    rw [yp_then_ite]
    rfl
  rw [e0]
  refine yC_try (yC_of h hz) fun n q b w e1 e2 hw e3 => ?_
  obtain ⟨rfl, q1, rfl⟩ := e3
  have hq : n ≤ lim - q := by
    obtain ⟨n', q', -, h2⟩ := yp_thenI e1
    split at h2
    · next hle => cases h2; exact hle
    · cases h2
  have e17 : (xs_I u 17 (nI q1)).1 17 = nI q := hw.2.1
  rw [hh_ix ht]
  simp only [xs_let]
  rw [hh_ix ht, nI_clamp (by omega), e17]
  show yC q (some (Sum.inl (), xs_I (xs_A (xs_A (xs_I u 17 (nI q1)) 31 t (nI q)) 32 t (nI n)) 17 ((xs_I u 17 (nI q1)).1 17 + nI n))) _ _
  rw [e17, nI_add]
  refine yC_ok (by omega) ⟨_, _, rfl, yh_mv hw (by have := hw.2.2.2.1; omega), q + n, ?_⟩
  have : nI q1 = nI q := by rw [← e17, ys_Ig]
  rw [this]
theorem hh_passE {t : Nat} (ht : t ≤ 64) (hfu : 20 ≤ fu) (h : yh_st B lim p u) : yC p (fm_Reader_passBytes__h54_39 fu (nI t) u) (yp_bytes B lim p) (yJ B lim fun a _ v => ∃ q, v = xs_I (xs_A (xs_A (xs_I u 17 (nI a.1)) 25 t (nI a.1)) 26 t (nI a.2)) 17 (nI q)) := by
  unfold fm_Reader_passBytes__h54_39 yp_bytes
  have hz := hh_size (fu := fu) (L := lim) hfu (Nat.le_refl _) h.2.2.2.2 h
  rw [h.2.2.1]
  have e0 : (yp_then (yp_N B lim p) fun n q => if n ≤ lim - q then (.inl ((q, n), q + n) : ((Nat × Nat) × Nat) ⊕ Nat) else .inr 0) = yp_then (yp_then (yp_N B lim p) fun n q => if n ≤ lim - q then (.inl (n, q) : (Nat × Nat) ⊕ Nat) else .inr 0) fun n q => .inl ((q, n), q + n) := by
    rw [yp_then_then]
    congr 1
    funext n q
    rw [yp_then_ite]
    rfl
  rw [e0]
  refine yC_try (yC_of h hz) fun n q b w e1 e2 hw e3 => ?_
  obtain ⟨rfl, q1, rfl⟩ := e3
  have hq : n ≤ lim - q := by
    obtain ⟨n', q', -, h2⟩ := yp_thenI e1
    split at h2
    · next hle => cases h2; exact hle
    · cases h2
  have e17 : (xs_I u 17 (nI q1)).1 17 = nI q := hw.2.1
  rw [hh_ix ht]
  simp only [xs_let]
  rw [hh_ix ht, nI_clamp (by omega), e17]
  show yC q (some (Sum.inl (), xs_I (xs_A (xs_A (xs_I u 17 (nI q1)) 25 t (nI q)) 26 t (nI n)) 17 ((xs_I u 17 (nI q1)).1 17 + nI n))) _ _
  rw [e17, nI_add]
  refine yC_ok (by omega) ⟨_, _, rfl, yh_mv hw (by have := hw.2.2.2.1; omega), q + n, ?_⟩
  have : nI q1 = nI q := by rw [← e17, ys_Ig]
  rw [this]
/-- an export: where its name lies, how long it is, kind, number -/
def yp_exp (B : Nat → Int32) (lim p : Nat) : (((Nat × Nat) × Nat × Nat) × Nat) ⊕ Nat := yp_then (yp_bytes B lim p) fun a q => yp_then (yp_byte B lim q) fun b q => if b ≤ 3 then yp_then (yp_N B lim q) fun m q => .inl ((a, b.toNatClampNeg, m), q) else .inr 0
theorem yp_exp_eats : yp_eats lim (yp_exp B lim) := by
  intro p a q h
  obtain ⟨c, r, h1, h⟩ := yp_thenI h
  obtain ⟨b, r2, h2, h⟩ := yp_thenI h
  have := yp_bytes_eats h1
  obtain ⟨-, h4, -⟩ := yp_bb h2
  split at h
  · obtain ⟨m, r3, h3, h⟩ := yp_thenI h
    have := yp_Nb h3
    cases h; omega
  · cases h
def yi_exp (v : xk_St) (k : Nat) (a : (Nat × Nat) × Nat × Nat) : Prop := v.2.2.1 25 k = nI a.1.1 ∧ v.2.2.1 26 k = nI a.1.2 ∧ v.2.2.1 24 k = nI a.2.1 ∧ v.2.2.2 7 k = lN (yn_c a.2.2)
theorem hh_exps {N : Nat} (hfu : 20 ≤ fu) (hn : lim + 2 ≤ fu) (h : yh_st B lim p u) : yC p (jb_Reader_readExports_18 fu fu (nI (yn_c N)) (0 : Int32) u) (yp_rep (yp_exp B lim) N p) (yJ B lim fun l _ v => yf_fr [17] [] [24, 25, 26] [7] u v ∧ yi_rows yi_exp l v) := by
  refine yC_rows (fu := fu) yp_exp_eats _ (fun a b => yf_fr [17] [] [24, 25, 26] [7] a b) N (jb_Reader_readExports_18 fu) yf_refl (fun _ _ => yf_trans) ?_ ?_ hn h
  · intro n k v hN hk
    unfold jb_Reader_readExports_18
    simp only [xs_let]
    rw [if_pos ((yn_cl (by omega)).mpr hN)]
  · intro n k t p v hk hk2 ht hv
    conv => arg 2; unfold jb_Reader_readExports_18
    unfold yp_exp
    simp only [xs_let]
    rw [if_neg (fun z => by have := (yn_cl (by omega)).mp z; omega), hh_min64 (by omega), ← ht, nI_1]
    refine yC_try (hh_passE (by omega) hfu hv) fun a q b w e1 e2 hw e3 => ?_
    obtain ⟨q1, rfl⟩ := e3
    refine yC_try (yC_of' hw (hh_byte hw)) fun b q b' w e1 e2 hw e3 => ?_
    obtain ⟨rfl, q2, rfl⟩ := e3
    refine yC_ite (fun _ => ?_) fun _ => yC_no
    rw [hh_ix (by omega), nI_clamp (by omega)]
    have hw' : yh_st B lim q (xs_A (xs_I (xs_I (xs_A (xs_A (xs_I v 17 (nI a.1)) 25 t (nI a.1)) 26 t (nI a.2)) 17 (nI q1)) 17 (nI q2)) 24 t b') := hw
    refine yC_try (yC_of hw' (hh_N hfu hw')) fun m q c w e4 e5 hw e6 => ?_
    obtain ⟨rfl, q3, rfl⟩ := e6
    rw [hh_ix' (by omega), nI_l (yn_cb m)]
    refine yC_ok (Nat.le_refl _) ⟨_, rfl, hw, yf_B (yf_I (yf_A (yf_I (yf_I (yf_A (yf_A (yf_I yf_refl (by decide)) (by decide)) (by decide)) (by decide)) (by decide)) (by decide)) (by decide)) (by decide), fun j c hj hP => ?_, ?_⟩
    · obtain ⟨p1, p2, p3, p4⟩ := hP
      exact ⟨(ya_j hj).trans p1, (ya_j hj).trans p2, (ya_j hj).trans p3, (yb_j hj).trans p4⟩
    · refine ⟨ya_t, ya_t, ?_, yb_t⟩
      show upd (v.2.2.1 24) t b' t = _
      rw [ya_t, yp_bn e1]
/-- data: the place, where the bytes lie and how many -/
def yp_da (B : Nat → Int32) (lim p : Nat) : ((Int64 × Nat × Nat) × Nat) ⊕ Nat := yp_then (yp_place B lim p) fun x q => yp_then (yp_bytes B lim q) fun a q => .inl ((x, a), q)
theorem yp_da_eats : yp_eats lim (yp_da B lim) := by
  intro p a q h
  obtain ⟨x, r, h1, h⟩ := yp_thenI h
  obtain ⟨b, r2, h2, h⟩ := yp_thenI h
  have := yp_place_eats h1
  have := yp_bytes_eats h2
  cases h; omega
def yi_da (v : xk_St) (k : Nat) (a : Int64 × Nat × Nat) : Prop := v.2.2.2 9 k = a.1 &&& 4294967295 ∧ v.2.2.1 31 k = nI a.2.1 ∧ v.2.2.1 32 k = nI a.2.2
theorem hh_das {N : Nat} (hfu : 20 ≤ fu) (hn : lim + 2 ≤ fu) (h : yh_st B lim p u) : yC p (jb_Reader_readData_18 fu fu (nI (yn_c N)) (0 : Int32) u) (yp_rep (yp_da B lim) N p) (yJ B lim fun l _ v => yf_fr [17] [] [31, 32] [9] u v ∧ yi_rows yi_da l v) := by
  refine yC_rows (fu := fu) yp_da_eats _ (fun a b => yf_fr [17] [] [31, 32] [9] a b) N (jb_Reader_readData_18 fu) yf_refl (fun _ _ => yf_trans) ?_ ?_ hn h
  · intro n k v hN hk
    unfold jb_Reader_readData_18
    simp only [xs_let]
    rw [if_pos ((yn_cl (by omega)).mpr hN)]
  · intro n k t p v hk hk2 ht hv
    conv => arg 2; unfold jb_Reader_readData_18
    unfold yp_da
    simp only [xs_let]
    rw [if_neg (fun z => by have := (yn_cl (by omega)).mp z; omega), hh_min64 (by omega), ← ht, nI_1]
    refine yC_try (yC_of hv (hh_place hfu hv)) fun x q b w e1 e2 hw e3 => ?_
    obtain ⟨rfl, q1, rfl⟩ := e3
    rw [hh_ix (by omega), nI_clamp (by omega)]
    have hw' : yh_st B lim q (xs_B (xs_I v 17 (nI q1)) 9 t (x &&& 4294967295)) := hw
    refine yC_try (hh_pass (by omega) hfu hw') fun a q b w e4 e5 hw e6 => ?_
    obtain ⟨q2, rfl⟩ := e6
    refine yC_ok (Nat.le_refl _) ⟨_, rfl, hw, yf_I (yf_A (yf_A (yf_I (yf_B (yf_I yf_refl (by decide)) (by decide)) (by decide)) (by decide)) (by decide)) (by decide), fun j c hj hP => ?_, ?_⟩
    · obtain ⟨p1, p2, p3⟩ := hP
      exact ⟨(yb_j hj).trans p1, (ya_j hj).trans p2, (ya_j hj).trans p3⟩
    · exact ⟨yb_t, ya_t, ya_t⟩
/-- a global: its type, whether it can be set, its first value's type and that value -/
def yp_glo (B : Nat → Int32) (lim p : Nat) : ((Nat × Nat × Nat × Int64) × Nat) ⊕ Nat := yp_then (yp_V B lim p) fun c q => yp_then (yp_flag B lim q) fun f q => yp_then (yp_const B lim q) fun a q => .inl ((c, f, a), q)
theorem yp_const_eats {a : Nat × Int64} (h : yp_const B lim p = .inl (a, q)) : p < q ∧ q ≤ lim := by
  obtain ⟨b, r, h1, h⟩ := yp_thenI h
  obtain ⟨-, h4, h0⟩ := yp_bb h1
  split at h
  · obtain ⟨x, r2, h2, h⟩ := yp_thenI h
    obtain ⟨_, r3, h3, h⟩ := yp_thenI h
    have := yp_S_eats h2
    have := yp_want_eats h3
    cases h; omega
  · split at h
    · obtain ⟨x, r2, h2, h⟩ := yp_thenI h
      obtain ⟨_, r3, h3, h⟩ := yp_thenI h
      have := yp_S_eats h2
      have := yp_want_eats h3
      cases h; omega
    · split at h
      · obtain ⟨x, r2, h2, h⟩ := yp_thenI h
        obtain ⟨_, r3, h3, h⟩ := yp_thenI h
        have := yp_T_eats h2
        have := yp_want_eats h3
        cases h; omega
      · cases h
theorem yp_glo_eats : yp_eats lim (yp_glo B lim) := by
  intro p a q h
  obtain ⟨x, r, h1, h⟩ := yp_thenI h
  obtain ⟨f, r2, h2, h⟩ := yp_thenI h
  obtain ⟨c, r3, h3, h⟩ := yp_thenI h
  have := yp_V_eats h1
  obtain ⟨-, h4, -⟩ := yp_fb h2
  have := yp_const_eats h3
  cases h; omega
def yi_glo (v : xk_St) (k : Nat) (a : Nat × Nat × Nat × Int64) : Prop := v.2.2.1 21 k = nI (yv_h a.1) ∧ v.2.2.1 22 k = nI a.2.1 ∧ v.2.2.1 23 k = nI (yv_h a.2.2.1) ∧ (a.2.2.1 < 16 → v.2.2.2 6 k = a.2.2.2)
theorem hh_glos {N : Nat} (hfu : 20 ≤ fu) (hn : lim + 2 ≤ fu) (h : yh_st B lim p u) : yC p (jb_Reader_readGlobals_20 fu fu (nI (yn_c N)) (0 : Int32) u) (yp_rep (yp_glo B lim) N p) (yJ B lim fun l _ v => yf_fr [17] [] [21, 22, 23] [6] u v ∧ yi_rows yi_glo l v) := by
  refine yC_rows (fu := fu) yp_glo_eats _ (fun a b => yf_fr [17] [] [21, 22, 23] [6] a b) N (jb_Reader_readGlobals_20 fu) yf_refl (fun _ _ => yf_trans) ?_ ?_ hn h
  · intro n k v hN hk
    unfold jb_Reader_readGlobals_20
    simp only [xs_let]
    rw [if_pos ((yn_cl (by omega)).mpr hN)]
  · intro n k t p v hk hk2 ht hv
    conv => arg 2; unfold jb_Reader_readGlobals_20
    unfold yp_glo yp_const jb_Reader_readGlobals_166
    simp only [xs_let]
    rw [if_neg (fun z => by have := (yn_cl (by omega)).mp z; omega), hh_min64 (by omega), ← ht, nI_1]
    refine yC_try (yC_of hv (hh_V hfu hv)) fun c q b w e1 e2 hw e3 => ?_
    obtain ⟨rfl, q1, rfl⟩ := e3
    simp only [hh_ix (show t ≤ 64 by omega), hh_ix' (show t ≤ 64 by omega), nI_clamp (show t < 2 ^ 31 by omega)]
    have hw' : yh_st B lim q (xs_A (xs_I v 17 (nI q1)) 21 t (nI (yv_h c))) := hw
    refine yC_try (yC_of hw' (hh_flag hw')) fun f q b w e4 e5 hw e6 => ?_
    obtain ⟨rfl, q2, rfl⟩ := e6
    have hw' : yh_st B lim q (xs_A (xs_I (xs_A (xs_I v 17 (nI q1)) 21 t (nI (yv_h c))) 17 (nI q2)) 22 t (nI f)) := hw
    rw [yp_then_then]
    refine yC_try (yC_of' hw' (hh_byte hw')) fun a q b w e7 e8 hw e9 => ?_
    obtain ⟨rfl, q3, rfl⟩ := e9
    simp only [yp_then_ite, yp_then_then, yp_then_l, yp_then_r]
    refine yC_ite (fun hb => ?_) fun _ => yC_ite (fun hb => ?_) fun _ => yC_ite (fun hb => ?_) fun _ => yC_no
    · have hw' : yh_st B lim q (xs_A (xs_I (xs_A (xs_I (xs_A (xs_I v 17 (nI q1)) 21 t (nI (yv_h c))) 17 (nI q2)) 22 t (nI f)) 17 (nI q3)) 23 t 1) := hw
      refine yC_try (yC_of' hw' (hh_S (w := 32) (by decide) hfu hw')) fun x q b w f1 f2 hw f3 => ?_
      obtain ⟨rfl, q4, rfl⟩ := f3
      have hw' : yh_st B lim q (xs_B (xs_I (xs_A (xs_I (xs_A (xs_I (xs_A (xs_I v 17 (nI q1)) 21 t (nI (yv_h c))) 17 (nI q2)) 22 t (nI f)) 17 (nI q3)) 23 t 1) 17 (nI q4)) 6 t b) := hw
      refine yC_try (yC_of' hw' (hh_want hw')) fun _ q _ w f1 f2 hw f3 => ?_
      obtain ⟨-, q5, rfl⟩ := f3
      refine yC_ok (Nat.le_refl _) ⟨_, rfl, hw, yf_I (yf_B (yf_I (yf_A (yf_I (yf_A (yf_I (yf_A (yf_I yf_refl (by decide)) (by decide)) (by decide)) (by decide)) (by decide)) (by decide)) (by decide)) (by decide)) (by decide), fun j c hj hP => ?_, ?_⟩
      · obtain ⟨p1, p2, p3, p4⟩ := hP
        exact ⟨(ya_j hj).trans p1, (ya_j hj).trans p2, (ya_j hj).trans p3, fun z => (yb_j hj).trans (p4 z)⟩
      · exact ⟨ya_t, ya_t, ya_t, fun _ => yb_t⟩
    · have hw' : yh_st B lim q (xs_A (xs_I (xs_A (xs_I (xs_A (xs_I v 17 (nI q1)) 21 t (nI (yv_h c))) 17 (nI q2)) 22 t (nI f)) 17 (nI q3)) 23 t 2) := hw
      refine yC_try (yC_of' hw' (hh_S (w := 64) (by decide) hfu hw')) fun x q b w f1 f2 hw f3 => ?_
      obtain ⟨rfl, q4, rfl⟩ := f3
      have hw' : yh_st B lim q (xs_B (xs_I (xs_A (xs_I (xs_A (xs_I (xs_A (xs_I v 17 (nI q1)) 21 t (nI (yv_h c))) 17 (nI q2)) 22 t (nI f)) 17 (nI q3)) 23 t 2) 17 (nI q4)) 6 t b) := hw
      refine yC_try (yC_of' hw' (hh_want hw')) fun _ q _ w f1 f2 hw f3 => ?_
      obtain ⟨-, q5, rfl⟩ := f3
      refine yC_ok (Nat.le_refl _) ⟨_, rfl, hw, yf_I (yf_B (yf_I (yf_A (yf_I (yf_A (yf_I (yf_A (yf_I yf_refl (by decide)) (by decide)) (by decide)) (by decide)) (by decide)) (by decide)) (by decide)) (by decide)) (by decide), fun j c hj hP => ?_, ?_⟩
      · obtain ⟨p1, p2, p3, p4⟩ := hP
        exact ⟨(ya_j hj).trans p1, (ya_j hj).trans p2, (ya_j hj).trans p3, fun z => (yb_j hj).trans (p4 z)⟩
      · exact ⟨ya_t, ya_t, ya_t, fun _ => yb_t⟩
    · refine yC_try (yC_of hw (hh_T hfu hw)) fun x q b w f1 f2 hw f3 => ?_
      obtain ⟨rfl, q4, rfl⟩ := f3
      rw [hh_refn, yv_ht1]
      have hw' : yh_st B lim q (xs_A (xs_I (xs_I (xs_A (xs_I (xs_A (xs_I v 17 (nI q1)) 21 t (nI (yv_h c))) 17 (nI q2)) 22 t (nI f)) 17 (nI q3)) 17 (nI q4)) 23 t (nI (yv_h (16 + 2 * x + 1)))) := hw
      refine yC_try (yC_of' hw' (hh_want hw')) fun _ q _ w f1 f2 hw f3 => ?_
      obtain ⟨-, q5, rfl⟩ := f3
      refine yC_ok (Nat.le_refl _) ⟨_, rfl, hw, yf_I (yf_A (yf_I (yf_I (yf_A (yf_I (yf_A (yf_I yf_refl (by decide)) (by decide)) (by decide)) (by decide)) (by decide)) (by decide)) (by decide)) (by decide), fun j c hj hP => ?_, ?_⟩
      · obtain ⟨p1, p2, p3, p4⟩ := hP
        exact ⟨(ya_j hj).trans p1, (ya_j hj).trans p2, (ya_j hj).trans p3, fun z => p4 z⟩
      · exact ⟨ya_t, ya_t, ya_t, fun z => absurd z (by simp; omega)⟩
end
