section
variable {α β γ δ : Type} {B : Nat → Int32} {u v w : xk_St} {lim p q fu : Nat} {e : Int32}
/-- items that lie in rows, as far as 64 -/
def yi_rows (P : xk_St → Nat → α → Prop) (l : List α) (v : xk_St) : Prop := ∀ k c, k < 64 → l[k]? = some c → P v k c
theorem yi_nil {P : xk_St → Nat → α → Prop} : yi_rows P [] v := fun k c _ h => by simp at h
theorem yi_snoc {P : xk_St → Nat → α → Prop} {l : List α} {a : α} {t : Nat} (ht : t = min l.length 64) (h : yi_rows P l v) (hk : ∀ k c, ¬ k = t → P v k c → P w k c) (ha : P w t a) : yi_rows P (l ++ [a]) w := by
  intro k d hk64 hd
  by_cases hl : k < l.length
  · rw [List.getElem?_append_left hl] at hd
    exact hk k d (by omega) (h k d hk64 hd)
  · rw [List.getElem?_append_right (by omega)] at hd
    have h0 : k - l.length = 0 := by
      by_cases z : k - l.length = 0
      · exact z
      · rw [List.getElem?_eq_none (by simp; omega)] at hd; cases hd
    rw [h0] at hd
    cases hd
    have : k = t := by omega
    rw [this]; exact ha
theorem yi_keep {P : xk_St → Nat → α → Prop} {l : List α} (h : yi_rows P l v) (hk : ∀ k c, P v k c → P w k c) : yi_rows P l w := fun k c h1 h2 => hk k c (h k c h1 h2)
theorem yp_self {s : (α × Nat) ⊕ Nat} : s = yp_then s fun c q => .inl (c, q) := by
  rcases s with ⟨a, b⟩ | k <;> rfl
theorem ys_IAc {k i j : Nat} {x y : Int32} : xs_I (xs_A u k i x) j y = xs_A (xs_I u j y) k i x := rfl
theorem hh_ix' {t : Nat} {o : Option (α × xk_St)} (ht : t ≤ 64) : (if nI t < 0 ∨ 65 ≤ t then none else o) = o := if_neg (fun z => z.elim (nI_pos (by omega)) (by omega))
/-- the shape that most sections have: a loop over rows -/
theorem yC_rows {it : Nat → (α × Nat) ⊕ Nat} (hit : yp_eats lim it) (P : xk_St → Nat → α → Prop) (R : xk_St → xk_St → Prop) (N : Nat) (F : Nat → Int32 → Int32 → xk_St → Option ((Unit ⊕ Nat) × xk_St)) (hR : R u u) (hT : ∀ v w, R u v → R v w → R u w)
    (hE : ∀ n k v, N ≤ k → k ≤ 8192 → F (n + 1) (nI (yn_c N)) (nI k) v = some (.inl (), v))
    (hi : ∀ n k t p v, k < N → k ≤ 8192 → t = min k 64 → yh_st B lim p v → yC p (F (n + 1) (nI (yn_c N)) (nI k) v) (it p) fun a q o => ∃ w, o = F n (nI (yn_c N)) (nI (k + 1)) w ∧ yh_st B lim q w ∧ R v w ∧ (∀ j c, ¬ j = t → P v j c → P w j c) ∧ P w t a)
    (hn : lim + 2 ≤ fu) (h : yh_st B lim p u) : yC p (F fu (nI (yn_c N)) (0 : Int32) u) (yp_rep it N p) (yJ B lim fun l _ v => R u v ∧ yi_rows P l v) := by
  have := yC_rep (B := B) (lim := lim) hit (fun l v => R u v ∧ yi_rows P l v) N (fun n k v => F n (nI (yn_c N)) (nI k) v) (fun v => some (.inl (), v)) hE ?_ (lim - p + 1) [] p fu u (by omega) (by omega) (Nat.zero_le _) (Nat.zero_le _) h ⟨hR, yi_nil⟩
  · refine yC_mono this fun l q e1 e2 hj => ?_
    obtain ⟨v, e3, e4, e5⟩ := hj
    exact ⟨(), v, e3, e4, by rw [List.nil_append] at e5; exact e5⟩
  · intro n l p v hl hl2 hv hI
    refine yC_mono (hi n l.length _ p v hl hl2 rfl hv) fun a q _ _ hj => ?_
    obtain ⟨w, g1, g2, g3, g4, g5⟩ := hj
    exact ⟨w, g1, g2, hT v w hI.1 g3, yi_snoc rfl hI.2 g4 g5⟩
/-- the numbers of the functions' types -/
theorem hh_funs {N : Nat} (hfu : 20 ≤ fu) (hn : lim + 2 ≤ fu) (h : yh_st B lim p u) : yC p (jb_Reader_readFunctions_18 fu fu (nI (yn_c N)) (0 : Int32) u) (yp_rep (yp_N B lim) N p) (yJ B lim fun l _ v => yf_fr [17] [] [12] [] u v ∧ yi_rows (fun v k n => v.2.2.1 12 k = nI (yn_c n)) l v) := by
  refine yC_rows (fu := fu) yp_N_eats' _ (fun a b => yf_fr [17] [] [12] [] a b) N (jb_Reader_readFunctions_18 fu) yf_refl (fun _ _ => yf_trans) ?_ ?_ hn h
  · intro n k v hN hk
    unfold jb_Reader_readFunctions_18
    simp only [xs_let]
    rw [if_pos ((yn_cl (by omega)).mpr hN)]
  · intro n k t p v hk hk2 ht hv
    conv => arg 2; unfold jb_Reader_readFunctions_18
    simp only [xs_let]
    rw [if_neg (fun z => by have := (yn_cl (by omega)).mp z; omega), hh_min64 (by omega), ← ht, yp_self (s := yp_N B lim p), nI_1]
    refine yC_try (yC_of hv (hh_N hfu hv)) fun c q b w e1 e2 hw e3 => ?_
    obtain ⟨rfl, q', rfl⟩ := e3
    rw [hh_ix (by omega), nI_clamp (by omega)]
    refine yC_ok (Nat.le_refl _) ⟨_, rfl, hw, yf_A (yf_I yf_refl (by decide)) (by decide), fun j c hj hP => ?_, ?_⟩
    · show upd (v.2.2.1 12) t _ j = _
      rw [upd, if_neg hj]; exact hP
    · show upd (v.2.2.1 12) t _ t = _
      rw [upd, if_pos rfl]
/-- limits -/
def yl_2 (m : Option Nat) : Nat := match m with
  | none => 2147483647
  | some m => yn_c m
theorem hh_lim {t : Nat} (ht : t ≤ 64) (hfu : 20 ≤ fu) (h : yh_st B lim p u) : yC p (fm_Reader_readLimits fu (nI t) u) (yp_limits B lim p) (yJ B lim fun a _ v => ∃ q, v = xs_A (xs_A (xs_I u 17 (nI q)) 16 t (nI (yn_c a.1))) 17 t (nI (yl_2 a.2))) := by
  unfold fm_Reader_readLimits yp_limits
  refine yC_try (yC_of h (hh_flag h)) fun f q b w e1 e2 hw e3 => ?_
  obtain ⟨rfl, q1, rfl⟩ := e3
  have hf := (yp_fb e1).1
  refine yC_try (yC_of hw (hh_N hfu hw)) fun n q b w e1 e2 hw e3 => ?_
  obtain ⟨rfl, q2, rfl⟩ := e3
  rw [hh_ix ht, nI_clamp (by omega)]
  simp only [xs_let]
  by_cases hc : f = 1
  · rw [if_pos ((nI_f1 hf).mpr hc), if_pos hc]
    have hw' : yh_st B lim q (xs_A (xs_I (xs_I u 17 (nI q1)) 17 (nI q2)) 16 t (nI (yn_c n))) := hw
    refine yC_try (yC_of hw' (hh_N hfu hw')) fun m q b w e1 e2 hw e3 => ?_
    obtain ⟨rfl, q3, rfl⟩ := e3
    rw [hh_ix' ht]
    refine yC_ok (Nat.le_refl _) ⟨_, _, rfl, hw, q3, ?_⟩
    rw [ys_II, ys_IAc, ys_II]
    rfl
  · rw [if_neg (fun z => hc ((nI_f1 hf).mp z)), if_neg hc, hh_ix' ht]
    refine yC_ok (Nat.le_refl _) ⟨_, _, rfl, hw, q2, ?_⟩
    rw [ys_II]
    rfl
theorem hh_limM {t : Nat} (ht : t ≤ 64) (hfu : 20 ≤ fu) (h : yh_st B lim p u) : yC p (fm_Reader_readLimits__h54_29 fu (nI t) u) (yp_limits B lim p) (yJ B lim fun a _ v => ∃ q, v = xs_A (xs_A (xs_I u 17 (nI q)) 19 t (nI (yn_c a.1))) 20 t (nI (yl_2 a.2))) := by
  unfold fm_Reader_readLimits__h54_29 yp_limits
  refine yC_try (yC_of h (hh_flag h)) fun f q b w e1 e2 hw e3 => ?_
  obtain ⟨rfl, q1, rfl⟩ := e3
  have hf := (yp_fb e1).1
  refine yC_try (yC_of hw (hh_N hfu hw)) fun n q b w e1 e2 hw e3 => ?_
  obtain ⟨rfl, q2, rfl⟩ := e3
  rw [hh_ix ht, nI_clamp (by omega)]
  simp only [xs_let]
  by_cases hc : f = 1
  · rw [if_pos ((nI_f1 hf).mpr hc), if_pos hc]
    have hw' : yh_st B lim q (xs_A (xs_I (xs_I u 17 (nI q1)) 17 (nI q2)) 19 t (nI (yn_c n))) := hw
    refine yC_try (yC_of hw' (hh_N hfu hw')) fun m q b w e1 e2 hw e3 => ?_
    obtain ⟨rfl, q3, rfl⟩ := e3
    rw [hh_ix' ht]
    refine yC_ok (Nat.le_refl _) ⟨_, _, rfl, hw, q3, ?_⟩
    rw [ys_II, ys_IAc, ys_II]
    rfl
  · rw [if_neg (fun z => hc ((nI_f1 hf).mp z)), if_neg hc, hh_ix' ht]
    refine yC_ok (Nat.le_refl _) ⟨_, _, rfl, hw, q2, ?_⟩
    rw [ys_II]
    rfl
def yp_tab (B : Nat → Int32) (lim p : Nat) : ((Nat × Option Nat) × Nat) ⊕ Nat := yp_then (yp_want 112 B lim p) fun _ q => yp_limits B lim q
theorem yp_tab_eats : yp_eats lim (yp_tab B lim) := by
  intro p a q h
  obtain ⟨_, r, h1, h2⟩ := yp_thenI h
  have := yp_want_eats h1
  have := yp_limits_eats h2
  omega
theorem hh_tabs {N : Nat} (hfu : 20 ≤ fu) (hn : lim + 2 ≤ fu) (h : yh_st B lim p u) : yC p (jb_Reader_readTables_18 fu fu (nI (yn_c N)) (0 : Int32) u) (yp_rep (yp_tab B lim) N p) (yJ B lim fun l _ v => yf_fr [17] [] [16, 17] [] u v ∧ yi_rows (fun v k (a : Nat × Option Nat) => v.2.2.1 16 k = nI (yn_c a.1) ∧ v.2.2.1 17 k = nI (yl_2 a.2)) l v) := by
  refine yC_rows (fu := fu) yp_tab_eats _ (fun a b => yf_fr [17] [] [16, 17] [] a b) N (jb_Reader_readTables_18 fu) yf_refl (fun _ _ => yf_trans) ?_ ?_ hn h
  · intro n k v hN hk
    unfold jb_Reader_readTables_18
    simp only [xs_let]
    rw [if_pos ((yn_cl (by omega)).mpr hN)]
  · intro n k t p v hk hk2 ht hv
    conv => arg 2; unfold jb_Reader_readTables_18
    unfold yp_tab
    simp only [xs_let]
    rw [if_neg (fun z => by have := (yn_cl (by omega)).mp z; omega), hh_min64 (by omega), ← ht, nI_1]
    refine yC_try (yC_of' hv (hh_want hv)) fun _ q b w e1 e2 hw e3 => ?_
    obtain ⟨-, q1, rfl⟩ := e3
    rw [yp_self (s := yp_limits B lim q)]
    refine yC_try (hh_lim (by omega) hfu hw) fun a q b w e1 e2 hw e3 => ?_
    obtain ⟨q2, rfl⟩ := e3
    refine yC_ok (Nat.le_refl _) ⟨_, rfl, hw, yf_A (yf_A (yf_I (yf_I yf_refl (by decide)) (by decide)) (by decide)) (by decide), fun j c hj hP => ⟨?_, ?_⟩, ?_, ?_⟩
    · show upd (v.2.2.1 16) t _ j = _
      rw [upd, if_neg hj]; exact hP.1
    · show upd (v.2.2.1 17) t _ j = _
      rw [upd, if_neg hj]; exact hP.2
    · show upd (v.2.2.1 16) t _ t = _
      rw [upd, if_pos rfl]
    · show upd (v.2.2.1 17) t _ t = _
      rw [upd, if_pos rfl]
theorem yp_limits_eats' : yp_eats lim (yp_limits B lim) := fun _ _ _ h => yp_limits_eats h
theorem hh_mems {N : Nat} (hfu : 20 ≤ fu) (hn : lim + 2 ≤ fu) (h : yh_st B lim p u) : yC p (jb_Reader_readMemories_18 fu fu (nI (yn_c N)) (0 : Int32) u) (yp_rep (yp_limits B lim) N p) (yJ B lim fun l _ v => yf_fr [17] [] [19, 20] [] u v ∧ yi_rows (fun v k (a : Nat × Option Nat) => v.2.2.1 19 k = nI (yn_c a.1) ∧ v.2.2.1 20 k = nI (yl_2 a.2)) l v) := by
  refine yC_rows (fu := fu) yp_limits_eats' _ (fun a b => yf_fr [17] [] [19, 20] [] a b) N (jb_Reader_readMemories_18 fu) yf_refl (fun _ _ => yf_trans) ?_ ?_ hn h
  · intro n k v hN hk
    unfold jb_Reader_readMemories_18
    simp only [xs_let]
    rw [if_pos ((yn_cl (by omega)).mpr hN)]
  · intro n k t p v hk hk2 ht hv
    conv => arg 2; unfold jb_Reader_readMemories_18
    simp only [xs_let]
    rw [if_neg (fun z => by have := (yn_cl (by omega)).mp z; omega), hh_min64 (by omega), ← ht, nI_1, yp_self (s := yp_limits B lim p)]
    refine yC_try (hh_limM (by omega) hfu hv) fun a q b w e1 e2 hw e3 => ?_
    obtain ⟨q2, rfl⟩ := e3
    refine yC_ok (Nat.le_refl _) ⟨_, rfl, hw, yf_A (yf_A (yf_I yf_refl (by decide)) (by decide)) (by decide), fun j c hj hP => ⟨?_, ?_⟩, ?_, ?_⟩
    · show upd (v.2.2.1 19) t _ j = _
      rw [upd, if_neg hj]; exact hP.1
    · show upd (v.2.2.1 20) t _ j = _
      rw [upd, if_neg hj]; exact hP.2
    · show upd (v.2.2.1 19) t _ t = _
      rw [upd, if_pos rfl]
    · show upd (v.2.2.1 20) t _ t = _
      rw [upd, if_pos rfl]
end
