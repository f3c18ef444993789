section
variable {α β γ δ : Type} {B : Nat → Int32} {u v w : xk_St} {lim p q fu : Nat} {e : Int32}
theorem yp_V_eats' : yp_eats lim (yp_V B lim) := fun _ _ _ h => yp_V_eats h
/-- a row of value types goes to one side of the types' parts -/
def yi_val (t o : Nat) (u : xk_St) (l : List Nat) (v : xk_St) : Prop := yf_fr [17] [] [6] [] u v ∧ (∀ i, i < o ∨ o + 17 ≤ i → v.2.2.1 6 i = u.2.2.1 6 i) ∧ ya_row (v.2.2.1 6) o l
theorem yi_valS {t o c : Nat} {l : List Nat} {x : Int32} (h : yi_val t o u l v) : yi_val t o u (l ++ [c]) (xs_A (xs_I v 17 x) 6 (o + min l.length 16) (nI (yv_h c))) := by
  obtain ⟨h1, h2, h3⟩ := h
  refine ⟨yf_A (yf_I h1 (by decide)) (by decide), fun i hi => ?_, ?_⟩
  · rw [ys_Ag, upd, if_neg (by omega)]
    exact h2 i hi
  · rw [ys_Ag]; exact ya_snoc h3
/-- the second row of a signature -/
theorem hh_sig2 {t N : Nat} (hfu : 20 ≤ fu) (ht : t ≤ 64) (hn : lim - p + 2 ≤ fu) (h : yh_st B lim p u) : yC p (jb_Reader_readSignature_59 fu fu (nI t) (nI (yn_c N)) (0 : Int32) u) (yp_rep (yp_V B lim) N p) (yJ B lim fun l _ v => yi_val t (34 * t + 17) u l v) := by
  have := yC_rep (B := B) (lim := lim) (it := yp_V B lim) yp_V_eats' (yi_val t (34 * t + 17) u) N (fun n k v => jb_Reader_readSignature_59 fu n (nI t) (nI (yn_c N)) (nI k) v) (fun v => some (.inl (), v)) ?_ ?_ (lim - p + 1) [] p fu u (by omega) (by omega) (Nat.zero_le _) (Nat.zero_le _) h ⟨yf_refl, fun _ _ => rfl, ya_nil⟩
  · refine yC_mono this fun l q e1 e2 hj => ?_
    obtain ⟨v, e3, e4, e5⟩ := hj
    exact ⟨(), v, e3, e4, by rw [List.nil_append] at e5; exact e5⟩
  · intro n k v hN hk
    show jb_Reader_readSignature_59 fu (n + 1) (nI t) (nI (yn_c N)) (nI k) v = _
    unfold jb_Reader_readSignature_59
    simp only [xs_let]
    rw [if_pos ((yn_cl (by omega)).mpr hN)]
  · intro n l p v hl hl2 hv hI
    show yC p (jb_Reader_readSignature_59 fu (n + 1) (nI t) (nI (yn_c N)) (nI l.length) v) _ _
    conv => arg 2; unfold jb_Reader_readSignature_59
    simp only [xs_let]
    rw [if_neg (fun z => by have := (yn_cl (by omega)).mp z; omega)]
    have e0 : yp_V B lim p = yp_then (yp_V B lim p) fun c q => .inl (c, q) := by
      generalize yp_V B lim p = s
      rcases s with ⟨a, b⟩ | k <;> rfl
    rw [e0]
    refine yC_try (yC_of hv (hh_V hfu hv)) fun c q b w e1 e2 hw e3 => ?_
    obtain ⟨rfl, q', rfl⟩ := e3
    rw [hh_setO ht (by omega), nI_1]
    exact yC_ok (Nat.le_refl _) ⟨_, rfl, hw, yi_valS hI⟩
/-- the first one, and what follows it -/
theorem hh_sig1 {t N : Nat} {J : List Nat → Nat → Option ((Unit ⊕ Nat) × xk_St) → Prop} (hfu : 20 ≤ fu) (ht : t ≤ 64) (hn : lim - p + 2 ≤ fu) (h : yh_st B lim p u)
    (hJ : ∀ l q v, yh_st B lim q v → yi_val t (34 * t) u l v → J l q (xs_try (fm_Reader_readNumber fu v) fun a4 u5 => if nI t < 0 ∨ 65 ≤ (nI t).toNatClampNeg then none else xs_let (xs_A u5 4 (nI t).toNatClampNeg a4) fun u6 => jb_Reader_readSignature_59 fu fu (nI t) a4 (0 : Int32) u6)) :
    yC p (jb_Reader_readSignature_17 fu fu (nI t) (nI (yn_c N)) (0 : Int32) u) (yp_rep (yp_V B lim) N p) J := by
  have := yC_rep (B := B) (lim := lim) (it := yp_V B lim) yp_V_eats' (yi_val t (34 * t) u) N (fun n k v => jb_Reader_readSignature_17 fu n (nI t) (nI (yn_c N)) (nI k) v) (fun v => xs_try (fm_Reader_readNumber fu v) fun a4 u5 => if nI t < 0 ∨ 65 ≤ (nI t).toNatClampNeg then none else xs_let (xs_A u5 4 (nI t).toNatClampNeg a4) fun u6 => jb_Reader_readSignature_59 fu fu (nI t) a4 (0 : Int32) u6) ?_ ?_ (lim - p + 1) [] p fu u (by omega) (by omega) (Nat.zero_le _) (Nat.zero_le _) h ⟨yf_refl, fun _ _ => rfl, ya_nil⟩
  · refine yC_mono this fun l q e1 e2 hj => ?_
    obtain ⟨v, e3, e4, e5⟩ := hj
    rw [List.nil_append] at e5
    have := hJ l q v e4 e5
    rw [← e3] at this
    exact this
  · intro n k v hN hk
    show jb_Reader_readSignature_17 fu (n + 1) (nI t) (nI (yn_c N)) (nI k) v = _
    unfold jb_Reader_readSignature_17
    simp only [xs_let]
    rw [if_pos ((yn_cl (by omega)).mpr hN)]
  · intro n l p v hl hl2 hv hI
    show yC p (jb_Reader_readSignature_17 fu (n + 1) (nI t) (nI (yn_c N)) (nI l.length) v) _ _
    conv => arg 2; unfold jb_Reader_readSignature_17
    simp only [xs_let]
    rw [if_neg (fun z => by have := (yn_cl (by omega)).mp z; omega)]
    have e0 : yp_V B lim p = yp_then (yp_V B lim p) fun c q => .inl (c, q) := by
      generalize yp_V B lim p = s
      rcases s with ⟨a, b⟩ | k <;> rfl
    rw [e0]
    refine yC_try (yC_of hv (hh_V hfu hv)) fun c q b w e1 e2 hw e3 => ?_
    obtain ⟨rfl, q', rfl⟩ := e3
    rw [hh_setM ht (by omega), nI_1]
    exact yC_ok (Nat.le_refl _) ⟨_, rfl, hw, yi_valS hI⟩
/-- a type -/
def yp_tf (B : Nat → Int32) (lim p : Nat) : ((Nat × List Nat × List Nat) × Nat) ⊕ Nat :=
  yp_then (yp_byte B lim p) fun b q =>
    if b = 94 then yp_then (yp_rep (yp_fld B lim) 1 q) fun l q => .inl ((94, l.map Prod.fst, l.map Prod.snd), q)
    else if b = 95 then yp_then (yp_N B lim q) fun n q => yp_then (yp_rep (yp_fld B lim) n q) fun l q => .inl ((95, l.map Prod.fst, l.map Prod.snd), q)
    else if b = 96 then yp_then (yp_N B lim q) fun n q => yp_then (yp_rep (yp_V B lim) n q) fun l q => yp_then (yp_N B lim q) fun m q => yp_then (yp_rep (yp_V B lim) m q) fun r q => .inl ((96, l, r), q)
    else .inr 0
/-- type t as the class has it -/
def yk_ty (v : xk_St) (t : Nat) (c : Nat × List Nat × List Nat) : Prop :=
  v.2.2.1 2 t = nI c.1 ∧ v.2.2.1 3 t = nI (yn_c c.2.1.length) ∧ v.2.2.1 4 t = nI (if c.1 = 96 then yn_c c.2.2.length else 0) ∧ ya_row (v.2.2.1 6) (34 * t) c.2.1 ∧ ya_row (v.2.2.1 6) (34 * t + 17) c.2.2
def yk_fr (t : Nat) (u v : xk_St) : Prop := yf_fr [17] [] [2, 3, 4, 6] [] u v ∧ (∀ i, ¬ i = t → v.2.2.1 2 i = u.2.2.1 2 i ∧ v.2.2.1 3 i = u.2.2.1 3 i ∧ v.2.2.1 4 i = u.2.2.1 4 i) ∧ yk_out t u v
theorem yk_keep {t k : Nat} {c : Nat × List Nat × List Nat} (hf : yk_fr t u v) (hk : ¬ k = t) (h : yk_ty u k c) : yk_ty v k c := by
  obtain ⟨h1, h2, h3, h4, h5⟩ := h
  obtain ⟨-, g2, g3⟩ := hf
  obtain ⟨a, b, d⟩ := g2 k hk
  have hr : ∀ o l, (34 * k ≤ o ∧ o + 16 ≤ 34 * k + 34) → ya_row (u.2.2.1 6) o l → ya_row (v.2.2.1 6) o l := fun o l ho h j c hj hc => by
    rw [g3 (o + j) (by omega)]
    exact h j c hj hc
  exact ⟨a.trans h1, b.trans h2, d.trans h3, hr _ _ (by omega) h4, hr _ _ (by omega) h5⟩
theorem yp_rep_eats {it : Nat → (α × Nat) ⊕ Nat} (hit : yp_eats lim it) : ∀ {n p : Nat} {l : List α} {q : Nat}, yp_rep it n p = .inl (l, q) → p ≤ q ∧ (p ≤ lim → q ≤ lim) ∧ p + n ≤ q := by
  intro n
  induction n with
  | zero => intro p l q h; cases h; exact ⟨Nat.le_refl _, id, Nat.le_refl _⟩
  | succ n ih =>
    intro p l q h
    unfold yp_rep at h
    obtain ⟨a, r, h1, h2⟩ := yp_thenI h
    obtain ⟨l', r', h3, h4⟩ := yp_thenI h2
    cases h4
    have := hit _ _ _ h1
    have := ih h3
    omega
theorem yp_tf_eats : yp_eats lim (yp_tf B lim) := by
  intro p a q h
  obtain ⟨b, r, h1, h2⟩ := yp_thenI h
  obtain ⟨-, rfl, h3⟩ := yp_bb h1
  split at h2
  · obtain ⟨l, r, h4, h5⟩ := yp_thenI h2
    have := yp_rep_eats yp_fld_eats h4
    cases h5
    omega
  · split at h2
    · obtain ⟨n, r, h4, h5⟩ := yp_thenI h2
      obtain ⟨l, r', h6, h7⟩ := yp_thenI h5
      have := yp_Nb h4
      have := yp_rep_eats yp_fld_eats h6
      cases h7
      omega
    · split at h2
      · obtain ⟨n, r, h4, h5⟩ := yp_thenI h2
        obtain ⟨l, r', h6, h7⟩ := yp_thenI h5
        obtain ⟨m, r2, h8, h9⟩ := yp_thenI h7
        obtain ⟨l2, r3, h10, h11⟩ := yp_thenI h9
        have := yp_Nb h4
        have := yp_rep_eats yp_V_eats' h6
        have := yp_Nb h8
        have := yp_rep_eats yp_V_eats' h10
        cases h11
        omega
      · cases h2
theorem hh_ix {t : Nat} {o : Option (α × xk_St)} (ht : t ≤ 64) : (if nI t < 0 ∨ 65 ≤ (nI t).toNatClampNeg then none else o) = o := if_neg (nI_in (N := 65) (by omega) (by decide))
/-- the fields of a structure or an array, behind the number of them -/
theorem hh_rf {t N : Nat} (hfu : 20 ≤ fu) (ht : t ≤ 64) (hn : lim - p + 2 ≤ fu) (h : yh_st B lim p u) : yC p (fm_Reader_readFields fu (nI t) (nI (yn_c N)) u) (yp_rep (yp_fld B lim) N p) (yJ B lim fun l _ v => yi_fld t (xs_A u 3 t (nI (yn_c N))) l v) := by
  unfold fm_Reader_readFields
  rw [hh_ix ht, nI_clamp (by omega)]
  exact hh_fields hfu ht hn h
theorem hh_tyF {t k N : Nat} {l : List (Nat × Nat)} {b : Nat} {x : Int32} (hk : v.2.2.1 2 t = nI b) (hb : ¬ b = 96) (h4 : v.2.2.1 4 t = 0) (hN : l.length = N) (hf : yk_fr t u v) (h : yi_fld t (xs_A (xs_I v 17 x) 3 t (nI (yn_c N))) l w) : yk_fr t u w ∧ yk_ty w t (b, l.map Prod.fst, l.map Prod.snd) := by
  obtain ⟨i1, i2, i3, i4⟩ := h
  obtain ⟨f1, f2, f3⟩ := hf
  have a2 : w.2.2.1 2 = v.2.2.1 2 := i1.2.2.1 2 (by decide)
  have a3 : w.2.2.1 3 = upd (v.2.2.1 3) t (nI (yn_c N)) := (i1.2.2.1 3 (by decide)).trans ys_Ag
  have a4 : w.2.2.1 4 = v.2.2.1 4 := i1.2.2.1 4 (by decide)
  refine ⟨⟨yf_trans f1 (yf_trans (yf_A (yf_I yf_refl (by decide)) (by decide)) (yf_mono i1 (by decide))), fun i hi => ?_, fun i hi => (i2 i hi).trans (f3 i hi)⟩, ?_, ?_, ?_, i3, i4⟩
  · obtain ⟨g1, g2, g3⟩ := f2 i hi
    rw [a2, a3, a4, upd, if_neg hi]
    exact ⟨g1, g2, g3⟩
  · rw [a2]; exact hk
  · rw [a3, upd, if_pos rfl, List.length_map, hN]
  · rw [a4, h4, if_neg hb]; rfl
/-- a signature -/
theorem hh_rs {t : Nat} (hfu : 20 ≤ fu) (ht : t ≤ 64) (hn : lim - p + 2 ≤ fu) (h : yh_st B lim p u) (hk : u.2.2.1 2 t = nI 96) : yC p (fm_Reader_readSignature fu (nI t) u) (yp_then (yp_N B lim p) fun n q => yp_then (yp_rep (yp_V B lim) n q) fun l q => yp_then (yp_N B lim q) fun m q => yp_then (yp_rep (yp_V B lim) m q) fun r q => .inl ((96, l, r), q)) (yJ B lim fun c _ v => yk_fr t u v ∧ yk_ty v t c) := by
  unfold fm_Reader_readSignature
  refine yC_try (yC_of h (hh_N hfu h)) fun n q b w e1 e2 hw e3 => ?_
  obtain ⟨rfl, q', rfl⟩ := e3
  rw [hh_ix ht, nI_clamp (by omega)]
  refine yC_then (hh_sig1 (J := fun l q o => ∃ v, yh_st B lim q v ∧ yi_val t (34 * t) (xs_A (xs_I u 17 (nI q')) 3 t (nI (yn_c n))) l v ∧ o = (xs_try (fm_Reader_readNumber fu v) fun a4 u5 => if nI t < 0 ∨ 65 ≤ (nI t).toNatClampNeg then none else xs_let (xs_A u5 4 (nI t).toNatClampNeg a4) fun u6 => jb_Reader_readSignature_59 fu fu (nI t) a4 (0 : Int32) u6)) hfu ht (by omega) (show yh_st B lim q (xs_A (xs_I u 17 (nI q')) 3 t (nI (yn_c n))) from hw) fun l q v hv hI => ⟨v, hv, hI, rfl⟩) fun l q2 e4 e5 hj => ?_
  obtain ⟨v, hv, ⟨i1, i2, i3⟩, e6⟩ := hj
  rw [e6]
  refine yC_try (yC_of hv (hh_N hfu hv)) fun m q b w e7 e8 hw2 e9 => ?_
  obtain ⟨rfl, q'', rfl⟩ := e9
  rw [hh_ix ht, nI_clamp (by omega)]
  refine yC_then (hh_sig2 hfu ht (by omega) (show yh_st B lim q (xs_A (xs_I v 17 (nI q'')) 4 t (nI (yn_c m))) from hw2)) fun r q3 f1 f2 hj => ?_
  obtain ⟨b, w, f3, f4, j1, j2, j3⟩ := hj
  refine yC_ok (Nat.le_refl _) ⟨b, w, f3, f4, ?_⟩
  have l1 := yp_repl e4
  have l2 := yp_repl f1
  have a2 : w.2.2.1 2 = u.2.2.1 2 := (j1.2.2.1 2 (by decide)).trans (i1.2.2.1 2 (by decide))
  have a3 : w.2.2.1 3 = upd (u.2.2.1 3) t (nI (yn_c n)) := (j1.2.2.1 3 (by decide)).trans ((i1.2.2.1 3 (by decide)).trans ys_Ag)
  have a4 : w.2.2.1 4 = upd (v.2.2.1 4) t (nI (yn_c m)) := (j1.2.2.1 4 (by decide)).trans ys_Ag
  have a4' : v.2.2.1 4 = u.2.2.1 4 := i1.2.2.1 4 (by decide)
  refine ⟨⟨yf_trans (yf_A (yf_I yf_refl (by decide)) (by decide)) (yf_trans (yf_mono i1 (by decide)) (yf_trans (yf_A (yf_I yf_refl (by decide)) (by decide)) (yf_mono j1 (by decide)))), fun i hi => ?_, fun i hi => ?_⟩, ?_, ?_, ?_, ?_, ?_⟩
  · rw [a2, a3, a4, a4', upd, if_neg hi, upd, if_neg hi]
    exact ⟨rfl, rfl, rfl⟩
  · exact (j2 i (by omega)).trans (i2 i (by omega))
  · rw [a2]; exact hk
  · rw [a3, upd, if_pos rfl]
    show _ = nI (yn_c l.length)
    rw [l1]
  · rw [a4, upd, if_pos rfl]
    show _ = nI (yn_c r.length)
    rw [l2]
  · intro j c hj hc
    rw [j2 (34 * t + j) (by omega)]
    exact i3 j c hj hc
  · exact j3
/-- the types -/
def yi_tys (u : xk_St) (l : List (Nat × List Nat × List Nat)) (v : xk_St) : Prop := yf_fr [17] [] [2, 3, 4, 6] [] u v ∧ ∀ k c, k < 64 → l[k]? = some c → yk_ty v k c
theorem yi_tysS {t : Nat} {l : List (Nat × List Nat × List Nat)} {c : Nat × List Nat × List Nat} (ht : t = min l.length 64) (h : yi_tys u l v) (hf : yk_fr t v w) (hc : yk_ty w t c) : yi_tys u (l ++ [c]) w := by
  refine ⟨yf_trans h.1 hf.1, fun k d hk hd => ?_⟩
  by_cases hl : k < l.length
  · rw [List.getElem?_append_left hl] at hd
    exact yk_keep hf (by omega) (h.2 k d hk hd)
  · rw [List.getElem?_append_right (by omega)] at hd
    have h0 : k - l.length = 0 := by
      by_cases z : k - l.length = 0
      · exact z
      · rw [List.getElem?_eq_none (by simp; omega)] at hd; cases hd
    rw [h0] at hd
    cases hd
    have : k = t := by omega
    rw [this]; exact hc
theorem hh_types {N : Nat} (hfu : 20 ≤ fu) (hn : lim + 2 ≤ fu) (h : yh_st B lim p u) : yC p (jb_Reader_readTypes_15 fu fu (nI (yn_c N)) (0 : Int32) u) (yp_rep (yp_tf B lim) N p) (yJ B lim fun l _ v => yi_tys u l v) := by
  have := yC_rep (B := B) (lim := lim) (it := yp_tf B lim) yp_tf_eats (yi_tys u) N (fun n k v => jb_Reader_readTypes_15 fu n (nI (yn_c N)) (nI k) v) (fun v => some (.inl (), v)) ?_ ?_ (lim - p + 1) [] p fu u (by omega) (by omega) (Nat.zero_le _) (Nat.zero_le _) h ⟨yf_refl, fun k c _ hc => by simp at hc⟩
  · refine yC_mono this fun l q e1 e2 hj => ?_
    obtain ⟨v, e3, e4, e5⟩ := hj
    exact ⟨(), v, e3, e4, by rw [List.nil_append] at e5; exact e5⟩
  · intro n k v hN hk
    show jb_Reader_readTypes_15 fu (n + 1) (nI (yn_c N)) (nI k) v = _
    unfold jb_Reader_readTypes_15
    simp only [xs_let]
    rw [if_pos ((yn_cl (by omega)).mpr hN)]
  · intro n l p v hl hl2 hv hI
    show yC p (jb_Reader_readTypes_15 fu (n + 1) (nI (yn_c N)) (nI l.length) v) _ _
    conv => arg 2; unfold jb_Reader_readTypes_15
    unfold yp_tf jb_Reader_readTypes_121
    simp only [xs_let]
    rw [if_neg (fun z => by have := (yn_cl (by omega)).mp z; omega), hh_min64 (by omega)]
    obtain ⟨t, ht⟩ : ∃ t, t = min l.length 64 := ⟨_, rfl⟩
    rw [← ht, nI_1]
    have ht64 : t ≤ 64 := by omega
    refine yC_try (yC_of' hv (hh_byte hv)) fun a q b w e1 e2 hw e3 => ?_
    obtain ⟨rfl, q', rfl⟩ := e3
    rw [hh_ix ht64, hh_ix ht64, nI_clamp (by omega)]
    have hfr : ∀ x : Nat, yk_fr t v (xs_A (xs_A (xs_I v 17 (nI q')) 2 t (nI x)) 4 t 0) := fun x => by
      refine ⟨yf_A (yf_A (yf_I yf_refl (by decide)) (by decide)) (by decide), fun i hi => ?_, fun i _ => rfl⟩
      refine ⟨?_, rfl, ?_⟩
      · show upd (v.2.2.1 2) t (nI x) i = _
        rw [upd, if_neg hi]
      · show upd (v.2.2.1 4) t 0 i = _
        rw [upd, if_neg hi]
    have e2' : ∀ x : Nat, (xs_A (xs_A (xs_I v 17 (nI q')) 2 t (nI x)) 4 t 0).2.2.1 2 t = nI x := fun x => by
      show upd (v.2.2.1 2) t (nI x) t = _
      rw [upd, if_pos rfl]
    have e4' : ∀ x : Nat, (xs_A (xs_A (xs_I v 17 (nI q')) 2 t (nI x)) 4 t 0).2.2.1 4 t = 0 := fun x => by
      show upd (v.2.2.1 4) t 0 t = _
      rw [upd, if_pos rfl]
    refine yC_ite (fun hb => ?_) fun _ => yC_ite (fun hb => ?_) fun _ => yC_ite (fun hb => ?_) fun _ => yC_no
    · subst hb
      have hst : yh_st B lim q (xs_A (xs_A (xs_I v 17 (nI q')) 2 t (nI 94)) 4 t 0) := hw
      refine yC_try (hh_rf (N := 1) hfu ht64 (by omega) hst) fun l2 q2 b w f1 f2 hw2 f3 => ?_
      have := hh_tyF (k := 0) (x := nI q) (e2' 94) (by decide) (e4' 94) (yp_repl f1) (hfr 94) (by rw [ys_Is (show (xs_A (xs_A (xs_I v 17 (nI q')) 2 t (nI 94)) 4 t 0).1 17 = nI q from hw.2.1)]; exact f3)
      exact yC_ok (Nat.le_refl _) ⟨w, rfl, hw2, yi_tysS ht hI this.1 this.2⟩
    · subst hb
      have hst : yh_st B lim q (xs_A (xs_A (xs_I v 17 (nI q')) 2 t (nI 95)) 4 t 0) := hw
      refine yC_try (yC_of hst (hh_N hfu hst)) fun m q2 b w g1 g2 hw1 g3 => ?_
      obtain ⟨rfl, q3, rfl⟩ := g3
      refine yC_try (hh_rf hfu ht64 (by omega) hw1) fun l2 q2 b w f1 f2 hw2 f3 => ?_
      have := hh_tyF (k := 0) (x := nI q3) (e2' 95) (by decide) (e4' 95) (yp_repl f1) (hfr 95) f3
      exact yC_ok (Nat.le_refl _) ⟨w, rfl, hw2, yi_tysS ht hI this.1 this.2⟩
    · subst hb
      have hst : yh_st B lim q (xs_A (xs_A (xs_I v 17 (nI q')) 2 t (nI 96)) 4 t 0) := hw
      refine yC_mono (J := fun c q o => ∃ w, o = jb_Reader_readTypes_15 fu n (nI (yn_c N)) (nI (l.length + 1)) w ∧ yh_st B lim q w ∧ yk_fr t v w ∧ yk_ty w t c) ?_ fun c q _ _ hj => ?_
      · have e0 : ∀ s : ((Nat × List Nat × List Nat) × Nat) ⊕ Nat, s = yp_then s fun c q => .inl (c, q) := fun s => by rcases s with ⟨a, b⟩ | k <;> rfl
        rw [e0 (yp_then (yp_N B lim q) _)]
        refine yC_try (hh_rs hfu ht64 (by omega) hst (e2' 96)) fun c q2 b w f1 f2 hw2 f3 => ?_
        refine yC_ok (Nat.le_refl _) ⟨w, rfl, hw2, ?_, f3.2⟩
        obtain ⟨k1, k2, k3⟩ := hfr 96
        obtain ⟨m1, m2, m3⟩ := f3.1
        exact ⟨yf_trans k1 m1, fun i hi => ⟨(m2 i hi).1.trans (k2 i hi).1, (m2 i hi).2.1.trans (k2 i hi).2.1, (m2 i hi).2.2.trans (k2 i hi).2.2⟩, fun i hi => (m3 i hi).trans (k3 i hi)⟩
      · obtain ⟨w, g1, g2, g3, g4⟩ := hj
        exact ⟨w, g1, g2, yi_tysS ht hI g3 g4⟩
end
