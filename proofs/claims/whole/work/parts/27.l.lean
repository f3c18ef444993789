section
variable {α β γ δ : Type} {B : Nat → Int32} {u v w : xk_St} {L lim p q fu D len : Nat} {e : Int32} {T : List (Nat × List Nat × List Nat)} {S : Nat → Option (Nat × Nat)}
/-- where the reference stands when it takes a module down -/
def yB (B : Nat → Int32) (len : Nat) (S : Nat → Option (Nat × Nat)) (u : xk_St) : Prop := u.2.2.1 1 = B ∧ u.1 3 = nI len ∧ len ≤ 8192 ∧ ySm S u ∧ (∀ j x, S j = some x → x.2 ≤ len) ∧ u.1 6 = 0
theorem yB_fr {I J A C : List Nat} (h : yB B len S v) (hf : yf_fr I J A C v w) (hd : (yf_no [3] I && yf_no [1, 2] A) = true) (h6 : w.1 6 = 0) : yB B len S w := by
  have hd := Bool.and_eq_true_iff.mp hd
  obtain ⟨h1, h2, h3, h4, h5, -⟩ := h
  refine ⟨(hf.2.2.1 1 (yf_nok hd.2 (by simp))).trans h1, (hf.1 3 (yf_nok hd.1 (by simp))).trans h2, h3, fun j a b => ?_, h5, h6⟩
  rw [hf.2.2.1 2 (yf_nok hd.2 (by simp))]
  exact h4 j a b
theorem ie12 {k : Nat} {o : Option (α × xk_St)} (hk : k < 12) : (if nI k < 0 ∨ 12 ≤ (nI k).toNatClampNeg then none else o) = o := if_neg (nI_in (N := 12) hk (by decide))
theorem nI_neg1' : ¬ (0 : Int32) ≤ -1 := by decide
/-- how many there are in a section -/
theorem mm_rowOf {it : Nat → Nat → (α × Nat) ⊕ Nat} {l : List α} {id : Nat} (hfu : 100 ≤ fu) (hid : 0 < id ∧ id < 12) (hit : ∀ lim, yp_eats lim (it lim)) (hm : ∀ lim lim' p, lim ≤ lim' → yp_le (it lim p) (it lim' p)) (hX : yX B it (S id) l) (hB : yB B len S u) (h7 : u.1 7 = 0) :
    ∃ w q e, fm_Model_rowOf fu (nI id) u = some (if l.length ≤ 64 then nI l.length else 0, w) ∧ yf_fr [4, 5, 7] [] [] [] u w ∧ w.1 7 = (if l.length ≤ 64 then 0 else 1) ∧ (0 < l.length → ym_st B len q w) ∧ yp_rep (it len) l.length q = .inl (l, e) := by
  obtain ⟨b1, b2, b3, b4, b5, b6⟩ := hB
  have hS := b4 id hid.1 hid.2
  unfold fm_Model_rowOf
  rw [ie12 hid.2, ie12 hid.2, nI_clamp (by omega)]
  cases hs : S id with
  | none =>
    rw [hs] at hX hS
    have hl : l = [] := hX
    have hS : u.2.2.1 2 id = -1 := hS
    subst hl
    rw [hS, if_neg nI_neg1']
    exact ⟨u, 0, 0, rfl, yf_refl, h7, fun z => absurd z (by simp), rfl⟩
  | some x =>
    rw [hs] at hX hS
    obtain ⟨p, e⟩ := x
    have hX : p ≤ e ∧ e ≤ 8192 ∧ yp_row B e (it e) p = .inl (l, e) := hX
    have hS : u.2.2.1 2 id = nI p := hS
    have hel : e ≤ len := b5 id (p, e) hs
    obtain ⟨x1, x2, x3⟩ := hX
    have hr := yl_row (B := B) (it := it) (p := p) hel (fun p => hm e len p hel) _ x3
    obtain ⟨n, q, r1, r2⟩ := yp_thenI hr
    have hlen := yp_repl r2
    obtain ⟨hn32, hq1, hq2⟩ := yp_Nb r1
    rw [hS, if_pos (show (0 : Int32) ≤ nI p from nI_le (a := 0) (Nat.zero_le _) (by omega))]
    simp only [xs_let]
    have hst : ym_st B len p (xs_I (xs_I u 4 (nI p)) 5 ((xs_I u 4 (nI p)).1 3)) := ⟨b1, rfl, b2, by omega, b3⟩
    rw [mk_N (by omega) hst b6 r1, ys_seq]
    rw [if_pos (show (xs_I (xs_I (xs_I u 4 (nI p)) 5 ((xs_I u 4 (nI p)).1 3)) 4 (nI q)).1 7 = 0 from h7)]
    unfold jb_Model_rowOf_50 jb_Model_rowOf_55
    simp only [xs_let, if_true, or_true, true_or]
    have hst2 := ym_mv hst hq2
    by_cases h64 : n ≤ 64
    · rw [if_pos (show lN n ≤ 64 from (pk_lLE (b := 64) (by omega) (by decide)).mpr h64), if_pos ys_Ig, hlen, if_pos h64, if_pos h64, lN_i]
      exact ⟨_, q, e, rfl, yf_I (yf_I (yf_I (yf_I yf_refl (by decide)) (by decide)) (by decide)) (by decide), ys_Ig, fun _ => ym_I7 hst2, r2⟩
    · rw [if_neg (show ¬ lN n ≤ 64 from fun z => h64 ((pk_lLE (b := 64) (by omega) (by decide)).mp z)), if_neg (by rw [ys_Ig]; decide), hlen, if_neg h64, if_neg h64]
      exact ⟨_, q, e, rfl, yf_I (yf_I (yf_I (yf_I yf_refl (by decide)) (by decide)) (by decide)) (by decide), ys_Ig, fun _ => ym_I7 hst2, r2⟩
theorem mx_rowOf {it : Nat → Nat → (α × Nat) ⊕ Nat} {l : List α} {id : Nat} (hfu : 100 ≤ fu) (hid : 0 < id ∧ id < 12) (hm : ∀ lim lim' p, lim ≤ lim' → yp_le (it lim p) (it lim' p)) (hX : yX B it (S id) l) (hB : yB B len S u) (h7 : u.1 7 = 1) :
    ∃ w, fm_Model_rowOf fu (nI id) u = some (0, w) ∧ yf_fr [4, 5, 7] [] [] [] u w ∧ w.1 7 = 1 := by
  obtain ⟨b1, b2, b3, b4, b5, b6⟩ := hB
  have hS := b4 id hid.1 hid.2
  unfold fm_Model_rowOf
  rw [ie12 hid.2, ie12 hid.2, nI_clamp (by omega)]
  cases hs : S id with
  | none =>
    rw [hs] at hS
    have hS : u.2.2.1 2 id = -1 := hS
    rw [hS, if_neg nI_neg1']
    exact ⟨u, rfl, yf_refl, h7⟩
  | some x =>
    rw [hs] at hX hS
    obtain ⟨p, e⟩ := x
    have hX : p ≤ e ∧ e ≤ 8192 ∧ yp_row B e (it e) p = .inl (l, e) := hX
    have hS : u.2.2.1 2 id = nI p := hS
    have hel : e ≤ len := b5 id (p, e) hs
    obtain ⟨x1, x2, x3⟩ := hX
    have hr := yl_row (B := B) (it := it) (p := p) hel (fun p => hm e len p hel) _ x3
    obtain ⟨n, q, r1, r2⟩ := yp_thenI hr
    rw [hS, if_pos (show (0 : Int32) ≤ nI p from nI_le (a := 0) (Nat.zero_le _) (by omega))]
    simp only [xs_let]
    have hst : ym_st B len p (xs_I (xs_I u 4 (nI p)) 5 ((xs_I u 4 (nI p)).1 3)) := ⟨b1, rfl, b2, by omega, b3⟩
    rw [mk_N (by omega) hst b6 r1, ys_seq]
    rw [if_neg (show ¬ (xs_I (xs_I (xs_I u 4 (nI p)) 5 ((xs_I u 4 (nI p)).1 3)) 4 (nI q)).1 7 = 0 from fun z => by rw [show (xs_I (xs_I (xs_I u 4 (nI p)) 5 ((xs_I u 4 (nI p)).1 3)) 4 (nI q)).1 7 = u.1 7 from rfl, h7] at z; exact absurd z (by decide))]
    unfold jb_Model_rowOf_50 jb_Model_rowOf_55
    simp only [xs_let, if_true, or_true]
    rw [if_neg (by rw [ys_Ig]; decide)]
    exact ⟨_, rfl, yf_I (yf_I (yf_I (yf_I yf_refl (by decide)) (by decide)) (by decide)) (by decide), ys_Ig⟩
/-- the types are taken down -/
theorem mm_td1 (hfu : 100 ≤ fu) (hX : yX B (yp_tf B) (S 1) T) (hB : yB B len S u) :
    ∃ v, fm_Model_takeDown fu u = jb_Model_takeDown_51 fu v ∧ v.1 6 = 0 ∧ yf_fr [4, 5, 7, 12] [] [4, 5, 6, 7, 8] [] u v ∧ ((yV1 T ∧ v.1 7 = 0 ∧ v.1 12 = nI T.length ∧ yTm T T.length v ∧ ∀ i, i < T.length → v.2.2.1 8 i = nI (yl_f T i)) ∨ (¬ yV1 T ∧ v.1 7 = 1)) := by
  unfold fm_Model_takeDown
  simp only [xs_let]
  have hB2 : yB B len S (xs_I (xs_I u 7 0) 12 0) := hB
  obtain ⟨w, q, e, r1, r2, r3, r4, r5⟩ := mm_rowOf (fu := fu) (id := 1) hfu (by decide) (fun _ => yp_tf_eats) (fun _ _ _ h => yl_tf h) hX hB2 rfl
  have r1' : fm_Model_rowOf fu 1 (xs_I (xs_I u 7 0) 12 0) = _ := r1
  rw [r1', ys_seq]
  have wfr : yf_fr [4, 5, 7, 12] [] [4, 5, 6, 7, 8] [] u w := yf_trans (yf_I (yf_I yf_refl (by decide)) (by decide)) (yf_mono r2 (by decide))
  have w6 : w.1 6 = 0 := (r2.1 6 (by decide)).trans hB.2.2.2.2.2
  by_cases h64 : T.length ≤ 64
  · rw [if_pos h64] at r3 ⊢
    have hstp : ∀ m k v, jb_Model_takeDown_18 fu (m + 1) (nI T.length) (nI k) v = if nI T.length ≤ nI k then jb_Model_takeDown_51 fu v else if v.1 7 = 0 then xs_seq (fm_Model_typeAt fu (nI k) v) fun _ u23 => jb_Model_takeDown_18 fu m (nI T.length) (nI (k + 1)) (xs_I u23 12 ((u23.1 12) + (1 : Int32))) else jb_Model_takeDown_51 fu v := fun m k v => by
      conv => lhs; unfold jb_Model_takeDown_18
      simp only [xs_let]
      rw [nI_1]
    have := mt_loop (B := B) (len := len) (l := T) (it := yp_tf B len) (fun k c => yv_ty T k c) (fun k v => yf_fr [4, 5, 7, 12] [] [4, 5, 6, 7, 8] [] u v ∧ v.1 12 = nI k ∧ yTm T k v ∧ ∀ i, i < k → v.2.2.1 8 i = nI (yl_f T i)) (fun v => yf_fr [4, 5, 7, 12] [] [4, 5, 6, 7, 8] [] u v) (fun m k v => jb_Model_takeDown_18 fu m (nI T.length) (nI k) v) (fun v => jb_Model_takeDown_51 fu v) (fun m v => ?_) (fun m k v hk hv => ?_) (fun m k c p q v hl hp hv v6 v7 hI => ?_) T.length 0 q e fu w (by omega) (by omega) (by rw [List.drop_zero]; exact r5) r4 w6 r3 ⟨wfr, (r2.1 12 (by decide)).trans rfl, fun j d hj => by omega, fun i hi => by omega⟩
    · obtain ⟨v, g1, g2, g3⟩ := this
      have g1' : jb_Model_takeDown_18 fu fu (nI T.length) 0 w = _ := g1
      refine ⟨v, g1', g2, ?_⟩
      rcases g3 with ⟨c1, c2, c3, -⟩ | ⟨⟨j, x, c1, c1'⟩, c2, c3⟩
      · exact ⟨c3.1, Or.inl ⟨⟨h64, fun k c hc => c1 k c (Nat.zero_le _) hc⟩, c2, c3.2⟩⟩
      · exact ⟨c3, Or.inr ⟨fun z => c1' (z.2 j x c1), c2⟩⟩
    · show jb_Model_takeDown_18 fu (m + 1) (nI T.length) (nI T.length) v = _
      rw [hstp, if_pos (Int32.le_refl _)]
    · show jb_Model_takeDown_18 fu (m + 1) (nI T.length) (nI k) v = _
      rw [hstp, if_neg (show ¬ v.1 7 = 0 by rw [hv]; decide)]
      split <;> rfl
    · have hk := yl_lt hl
      obtain ⟨i1, i2, i3, i4⟩ := hI
      show ∃ v', jb_Model_takeDown_18 fu (m + 1) (nI T.length) (nI k) v = _ ∧ _
      obtain ⟨y, d1, d2, d3, d4⟩ := mm_typeAt (T := T) (fu := fu) hfu (by omega) hl hp hv v6 v7 i3 i4
      rw [hstp, if_neg (nI_ge (by omega) (by omega)), if_pos v7, d1, ys_seq]
      have y12 : y.1 12 + 1 = nI (k + 1) := by rw [d3.1 12 (by decide), i2, nI_1]
      rw [y12]
      have yfr : yf_fr [4, 5, 7, 12] [] [4, 5, 6, 7, 8] [] u (xs_I y 12 (nI (k + 1))) := yf_I (yf_trans i1 (yf_mono d3 (by decide))) (by decide)
      refine ⟨_, rfl, d2, ?_⟩
      rcases d4 with ⟨f1, f2, f3, f4, f5⟩ | ⟨f1, f2⟩
      · exact Or.inl ⟨f1, f2, f3, yfr, ys_Ig, f4, f5⟩
      · exact Or.inr ⟨f1, f2, yfr⟩
  · rw [if_neg h64] at r3 ⊢
    refine ⟨w, ?_, w6, wfr, Or.inr ⟨fun z => h64 z.1, r3⟩⟩
    obtain ⟨f, hf⟩ : ∃ m, fu = m + 1 := ⟨fu - 1, by omega⟩
    conv => lhs; rw [hf]
    unfold jb_Model_takeDown_18
    simp only [xs_let]
    rw [if_pos (Int32.le_refl _), ← hf]
theorem mx_122 (h7 : u.1 7 = 1) : jb_Model_takeDown_122 fu u = some ((), u) := by
  have h0 : ¬ u.1 7 = 0 := by rw [h7]; decide
  unfold jb_Model_takeDown_122 jb_Model_takeDown_133 jb_Model_takeDown_144 jb_Model_takeDown_155 jb_Model_takeDown_166 jb_Model_takeDown_177 jb_Model_takeDown_188
  simp only [if_neg h0]
theorem mx_51 {l : List Nat} (hfu : 100 ≤ fu) (hX : yX B (yp_N B) (S 3) l) (hB : yB B len S u) (h7 : u.1 7 = 1) : ∃ w, jb_Model_takeDown_51 fu u = some ((), w) ∧ w.1 7 = 1 ∧ yf_fr [4, 5, 7, 13] [] [] [] u w := by
  unfold jb_Model_takeDown_51
  simp only [xs_let]
  have hB2 : yB B len S (xs_I u 13 0) := hB
  obtain ⟨w, r1, r2, r3⟩ := mx_rowOf (fu := fu) (id := 3) (it := yp_N B) hfu (by decide) (fun _ _ _ h => yl_N h) hX hB2 h7
  have r1' : fm_Model_rowOf fu 3 (xs_I u 13 0) = _ := r1
  rw [r1', ys_seq]
  obtain ⟨f, hf⟩ : ∃ m, fu = m + 1 := ⟨fu - 1, by omega⟩
  refine ⟨w, ?_, r3, yf_trans (yf_I yf_refl (by decide)) (yf_mono r2 (by decide))⟩
  conv => lhs; rw [hf]
  unfold jb_Model_takeDown_64
  simp only [xs_let]
  rw [if_pos (Int32.le_refl _), mx_122 r3]
/-- a function's type -/
def yv_fn (T : List (Nat × List Nat × List Nat)) (t : Nat) : Prop := ∃ c, T[t]? = some c ∧ c.1 = 96
theorem mm_isFn {t : Nat} (ht : t < 2 ^ 32) (h64 : T.length ≤ 64) (h12 : u.1 12 = nI T.length) (hK : yKm T T.length u) : (yv_fn T t → fm_Model_isFunctionType (lN t) u = some (1, u)) ∧ (¬ yv_fn T t → fm_Model_isFunctionType (lN t) u = some (0, u)) := by
  unfold fm_Model_isFunctionType
  rw [h12, nI_toL (by omega)]
  by_cases hl : T.length ≤ t
  · rw [if_pos ((pk_lLE (by omega) (by omega)).mpr hl)]
    exact ⟨fun ⟨c, h1, _⟩ => by have := yl_lt h1; omega, fun _ => rfl⟩
  · rw [if_neg (fun z => hl ((pk_lLE (by omega) (by omega)).mp z)), lN_i, ie64 (by omega), nI_clamp (by omega)]
    obtain ⟨c, hc⟩ := yl_get (l := T) (k := t) (by omega)
    obtain ⟨t1, tg⟩ := hK t c (by omega) hc
    have h0 : nI (96 - c.1) = (0 : Int32) ↔ c.1 = 96 := by
      have := tg.1
      exact (nI_eq (b := 0) (by omega) (by decide)).trans ⟨fun z => by omega, fun z => by omega⟩
    rw [t1]
    by_cases h96 : c.1 = 96
    · rw [if_pos (h0.mpr h96)]
      exact ⟨fun _ => rfl, fun z => absurd ⟨c, hc, h96⟩ z⟩
    · rw [if_neg (fun z => h96 (h0.mp z))]
      exact ⟨fun ⟨c', h1, h2⟩ => by rw [hc] at h1; cases h1; exact absurd h2 h96, fun _ => rfl⟩
/-- the functions are taken down -/
theorem mm_td2 {l : List Nat} (hfu : 100 ≤ fu) (hX : yX B (yp_N B) (S 3) l) (hB : yB B len S u) (h7 : u.1 7 = 0) (h64 : T.length ≤ 64) (h12 : u.1 12 = nI T.length) (hK : yKm T T.length u) :
    ∃ v, jb_Model_takeDown_51 fu u = jb_Model_takeDown_122 fu v ∧ v.1 6 = 0 ∧ yf_fr [4, 5, 7, 13] [] [9] [] u v ∧ (((l.length ≤ 64 ∧ ∀ (k : Nat) t, l[k]? = some t → yv_fn T t) ∧ v.1 7 = 0 ∧ v.1 13 = nI l.length ∧ ∀ (k : Nat) t, l[k]? = some t → v.2.2.1 9 k = nI t) ∨ (¬ (l.length ≤ 64 ∧ ∀ (k : Nat) t, l[k]? = some t → yv_fn T t) ∧ v.1 7 = 1)) := by
  unfold jb_Model_takeDown_51
  simp only [xs_let]
  have hB2 : yB B len S (xs_I u 13 0) := hB
  obtain ⟨w, q, e, r1, r2, r3, r4, r5⟩ := mm_rowOf (fu := fu) (id := 3) hfu (by decide) (fun _ => yp_N_eats') (fun _ _ _ h => yl_N h) hX hB2 h7
  have r1' : fm_Model_rowOf fu 3 (xs_I u 13 0) = _ := r1
  rw [r1', ys_seq]
  have wfr : yf_fr [4, 5, 7, 13] [] [9] [] u w := yf_trans (yf_I yf_refl (by decide)) (yf_mono r2 (by decide))
  have w6 : w.1 6 = 0 := (r2.1 6 (by decide)).trans hB.2.2.2.2.2
  by_cases hl64 : l.length ≤ 64
  · rw [if_pos hl64] at r3 ⊢
    have hstp : ∀ m k v, jb_Model_takeDown_64 fu (m + 1) (nI l.length) (nI k) v = if nI l.length ≤ nI k then jb_Model_takeDown_122 fu v else if v.1 7 = 0 then xs_seq (fm_Model_number fu v) fun a15 u16 => xs_seq (fm_Model_isFunctionType a15 u16) fun a17 u18 => if a17 = (0 : Int32) then (jb_Model_takeDown_95 fu (jb_Model_takeDown_64 fu m) (nI l.length) (nI k) a15 (1 : Int32) u18) else (jb_Model_takeDown_95 fu (jb_Model_takeDown_64 fu m) (nI l.length) (nI k) a15 (0 : Int32) u18) else jb_Model_takeDown_122 fu v := fun m k v => by
      conv => lhs; unfold jb_Model_takeDown_64
      simp only [xs_let]
    have := mt_loop (B := B) (len := len) (l := l) (it := yp_N B len) (fun k t => yv_fn T t) (fun k v => yf_fr [4, 5, 7, 13] [] [9] [] u v ∧ v.1 13 = nI k ∧ ∀ (i : Nat) t, i < k → l[i]? = some t → v.2.2.1 9 i = nI t) (fun v => yf_fr [4, 5, 7, 13] [] [9] [] u v) (fun m k v => jb_Model_takeDown_64 fu m (nI l.length) (nI k) v) (fun v => jb_Model_takeDown_122 fu v) (fun m v => ?_) (fun m k v hk hv => ?_) (fun m k t p q v hl hp hv v6 v7 hI => ?_) l.length 0 q e fu w (by omega) (by omega) (by rw [List.drop_zero]; exact r5) r4 w6 r3 ⟨wfr, (r2.1 13 (by decide)).trans rfl, fun j d hj => by omega⟩
    · obtain ⟨v, g1, g2, g3⟩ := this
      have g1' : jb_Model_takeDown_64 fu fu (nI l.length) 0 w = _ := g1
      refine ⟨v, g1', g2, ?_⟩
      rcases g3 with ⟨c1, c2, c3, -⟩ | ⟨⟨j, x, c1, c1'⟩, c2, c3⟩
      · exact ⟨c3.1, Or.inl ⟨⟨hl64, fun k c hc => c1 k c (Nat.zero_le _) hc⟩, c2, c3.2.1, fun k t ht => c3.2.2 k t (yl_lt ht) ht⟩⟩
      · exact ⟨c3, Or.inr ⟨fun z => c1' (z.2 j x c1), c2⟩⟩
    · show jb_Model_takeDown_64 fu (m + 1) (nI l.length) (nI l.length) v = _
      rw [hstp, if_pos (Int32.le_refl _)]
    · show jb_Model_takeDown_64 fu (m + 1) (nI l.length) (nI k) v = _
      rw [hstp, if_neg (show ¬ v.1 7 = 0 by rw [hv]; decide)]
      split <;> rfl
    · have hk := yl_lt hl
      obtain ⟨i1, i2, i3⟩ := hI
      obtain ⟨ht32, -, hq2⟩ := yp_Nb hp
      show ∃ v', jb_Model_takeDown_64 fu (m + 1) (nI l.length) (nI k) v = _ ∧ _
      have hK2 : yKm T T.length (xs_I v 4 (nI q)) := fun a b ha hb => by
        have := hK a b ha hb
        refine ⟨?_, this.2⟩
        show v.2.2.1 4 a = _
        rw [i1.2.2.1 4 (by decide)]; exact this.1
      obtain ⟨f1, f2⟩ := mm_isFn (T := T) (u := xs_I v 4 (nI q)) ht32 h64 ((i1.1 12 (by decide)).trans h12) hK2
      rw [hstp, if_neg (nI_ge (by omega) (by omega)), if_pos v7, mk_N (by omega) hv v6 hp, ys_seq]
      have h95 : ∀ s : Int32, (s = 0 ∨ s = 1) → jb_Model_takeDown_95 fu (jb_Model_takeDown_64 fu m) (nI l.length) (nI k) (lN t) s (xs_I v 4 (nI q)) = jb_Model_takeDown_64 fu m (nI l.length) (nI (k + 1)) (xs_I (xs_A (xs_I (xs_I v 4 (nI q)) 7 s) 9 k (nI t)) 13 (nI (k + 1))) := fun s hs => by
        unfold jb_Model_takeDown_95
        simp only [xs_let]
        rw [if_pos hs, ie64 (by omega), nI_clamp (by omega), lN_i, nI_1]
        have : (xs_A (xs_I (xs_I v 4 (nI q)) 7 s) 9 k (nI t)).1 13 = nI k := i2
        rw [this, nI_1]
      have yfr : ∀ s : Int32, yf_fr [4, 5, 7, 13] [] [9] [] u (xs_I (xs_A (xs_I (xs_I v 4 (nI q)) 7 s) 9 k (nI t)) 13 (nI (k + 1))) := fun s => yf_I (yf_A (yf_I (yf_I i1 (by decide)) (by decide)) (by decide)) (by decide)
      by_cases hf : yv_fn T t
      · rw [f1 hf, ys_seq, if_neg (show ¬ (1 : Int32) = 0 by decide), h95 0 (Or.inl rfl)]
        refine ⟨_, rfl, v6, Or.inl ⟨hf, rfl, ⟨hv.1, rfl, hv.2.2.1, hq2, hv.2.2.2.2⟩, yfr 0, ys_Ig, fun i s hi hs => ?_⟩⟩
        show upd (v.2.2.1 9) k (nI t) i = _
        by_cases z : i = k
        · subst z
          rw [hl] at hs; cases hs
          exact ya_t
        · rw [ya_j z]; exact i3 i s (by omega) hs
      · rw [f2 hf, ys_seq, if_pos rfl, h95 1 (Or.inr rfl)]
        exact ⟨_, rfl, v6, Or.inr ⟨hf, rfl, yfr 1⟩⟩
  · rw [if_neg hl64] at r3 ⊢
    refine ⟨w, ?_, w6, wfr, Or.inr ⟨fun z => hl64 z.1, r3⟩⟩
    obtain ⟨f, hf⟩ : ∃ m, fu = m + 1 := ⟨fu - 1, by omega⟩
    conv => lhs; rw [hf]
    unfold jb_Model_takeDown_64
    simp only [xs_let]
    rw [if_pos (Int32.le_refl _), ← hf]
end
