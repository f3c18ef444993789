section
variable {α β γ δ : Type} {B : Nat → Int32} {u v w : xk_St} {L lim p q fu D len : Nat} {e : Int32} {T : List (Nat × List Nat × List Nat)} {g : Nat → Nat}
theorem yp_rep_all {it : Nat → (α × Nat) ⊕ Nat} {Q : α → Prop} (hQ : ∀ p a q, it p = .inl (a, q) → Q a) : ∀ {n p : Nat} {l : List α} {q : Nat}, yp_rep it n p = .inl (l, q) → ∀ (i : Nat) a, l[i]? = some a → Q a := by
  intro n
  induction n with
  | zero => intro p l q h i a ha; unfold yp_rep at h; cases h; simp at ha
  | succ n ih =>
    intro p l q h i a ha
    unfold yp_rep at h
    obtain ⟨b, r, h1, h⟩ := yp_thenI h
    obtain ⟨l', r', h2, h⟩ := yp_thenI h
    cases h
    cases i with
    | zero => cases ha; exact hQ _ _ _ h1
    | succ i => exact ih h2 i a ha
theorem yg_fld {b : Nat} {l : List (Nat × Nat)} {n r : Nat} (hb : b = 94 ∨ b = 95) (h : yp_rep (yp_fld B lim) n r = .inl (l, q)) (h94 : b = 94 → n = 1) : yg_ty (b, l.map Prod.fst, l.map Prod.snd) := by
  have h1 := yp_rep_all (Q := fun x : Nat × Nat => (0 < x.1 ∧ x.1 ≤ 149 ∧ (x.1 = 1 ∨ x.1 = 2 ∨ 16 ≤ x.1 ∨ x.1 = 3 ∨ x.1 = 4)) ∧ x.2 ≤ 1) (fun p a q ha => by
    obtain ⟨c, q1, p1, p2⟩ := yp_thenI ha
    obtain ⟨f, q2, p3, p4⟩ := yp_thenI p2
    cases p4
    have := yp_Fb p1
    have := yp_fb p3
    refine ⟨⟨by omega, by omega, ?_⟩, by omega⟩
    rcases yp_Fc p1 with z | z | ⟨r, z⟩
    · omega
    · omega
    · have := yp_Vc z; omega) h
  have hl := yp_repl h
  refine ⟨by show b = 96 ∨ b = 95 ∨ b = 94; omega, fun i x hx => ?_, fun z => ?_, fun _ => ⟨by simp, fun i x hx => ?_⟩, fun z => ?_⟩
  · obtain ⟨y, hy⟩ := yl_mf hx
    have := (h1 i (x, y) hy).1
    show 0 < x ∧ x ≤ 149 ∧ (x = 1 ∨ x = 2 ∨ 16 ≤ x ∨ (¬ b = 96 ∧ (x = 3 ∨ x = 4)))
    have h0 : 0 < x ∧ x ≤ 149 ∧ (x = 1 ∨ x = 2 ∨ 16 ≤ x ∨ x = 3 ∨ x = 4) := this
    omega
  · have z : b = 96 := z
    omega
  · have hx : (l.map Prod.snd)[i]? = some x := hx
    rw [List.getElem?_map] at hx
    cases hh : l[i]? with
    | none => rw [hh] at hx; cases hx
    | some a => rw [hh] at hx; cases hx; exact (h1 i a hh).2
  · show (l.map Prod.fst).length = 1
    rw [List.length_map, hl]
    exact h94 z
/-- what is read as a type -/
theorem yp_tf_g {c : Nat × List Nat × List Nat} (h : yp_tf B lim p = .inl (c, q)) : yg_ty c := by
  obtain ⟨b, r, h1, h⟩ := yp_thenI h
  by_cases z1 : b = 94
  · rw [if_pos z1] at h
    obtain ⟨l, r2, h2, h⟩ := yp_thenI h
    cases h
    exact yg_fld (Or.inl rfl) h2 (fun _ => rfl)
  rw [if_neg z1] at h
  by_cases z2 : b = 95
  · rw [if_pos z2] at h
    obtain ⟨n, r2, h2, h⟩ := yp_thenI h
    obtain ⟨l, r3, h3, h⟩ := yp_thenI h
    cases h
    exact yg_fld (Or.inr rfl) h3 (fun z => by cases z)
  rw [if_neg z2] at h
  by_cases z3 : b = 96
  · rw [if_pos z3] at h
    obtain ⟨n, r2, h2, h⟩ := yp_thenI h
    obtain ⟨l, r3, h3, h⟩ := yp_thenI h
    obtain ⟨m, r4, h4, h⟩ := yp_thenI h
    obtain ⟨s, r5, h5, h⟩ := yp_thenI h
    cases h
    have hq : ∀ p a q, yp_V B lim p = .inl (a, q) → 0 < a ∧ a ≤ 149 ∧ (a = 1 ∨ a = 2 ∨ 16 ≤ a) := fun p a q ha => by
      have := yp_Vb ha
      have := yp_Vc ha
      omega
    refine ⟨Or.inl rfl, fun i x hx => ?_, fun _ i x hx => yp_rep_all hq h5 i x hx, fun z => absurd rfl z, fun z => by cases z⟩
    have := yp_rep_all hq h3 i x hx
    omega
  rw [if_neg z3] at h
  cases h
/-- the first n types, as the reference has them -/
def yTm (T : List (Nat × List Nat × List Nat)) (n : Nat) (v : xk_St) : Prop := ∀ (j : Nat) d, j < n → T[j]? = some d → yTy d j v ∧ yg_ty d ∧ yv_ty T j d
theorem yTyK {d : Nat × List Nat × List Nat} {j k : Nat} (h : yTy d j v) (hjk : ¬ j = k) (h4 : ∀ i, ¬ i = k → w.2.2.1 4 i = v.2.2.1 4 i) (h5 : ∀ i, ¬ i = k → w.2.2.1 5 i = v.2.2.1 5 i) (h6 : ∀ i, ¬ i = k → w.2.2.1 6 i = v.2.2.1 6 i) (h7 : ∀ i, (i < 32 * k ∨ 32 * k + 32 ≤ i) → w.2.2.1 7 i = v.2.2.1 7 i) : yTy d j w := by
  obtain ⟨a, b, c, d1, e⟩ := h
  refine ⟨by rw [h4 j hjk]; exact a, by rw [h5 j hjk]; exact b, by rw [h6 j hjk]; exact c, fun i hi => ?_, fun i hi => ?_⟩
  · rw [h7 _ (by omega)]; exact d1 i hi
  · rw [h7 _ (by omega)]; exact e i hi
/-- the places of a type are made empty -/
theorem mm_t34 {k : Nat} {b2 : Int32} (hk : k < 64) : ∀ (d i n : Nat) (w : xk_St), i + d = 32 → d < n → yf_fr [] [] [7] [] u w → (∀ j, (j < 32 * k ∨ 32 * k + i ≤ j) → w.2.2.1 7 j = u.2.2.1 7 j) → (∀ j, j < i → w.2.2.1 7 (32 * k + j) = 0) → ∃ v m, jb_Model_typeAt_34 fu n (nI k) b2 (nI i) w = jb_Model_typeAt_34 fu (m + 1) (nI k) b2 (nI 32) v ∧ yf_fr [] [] [7] [] u v ∧ (∀ j, (j < 32 * k ∨ 32 * k + 32 ≤ j) → v.2.2.1 7 j = u.2.2.1 7 j) ∧ (∀ j, j < 32 → v.2.2.1 7 (32 * k + j) = 0) := by
  intro d
  induction d with
  | zero =>
    intro i n w h1 h2 hf ho hz
    obtain ⟨n, rfl⟩ : ∃ m, n = m + 1 := ⟨n - 1, by omega⟩
    obtain rfl : i = 32 := by omega
    exact ⟨w, n, rfl, hf, ho, hz⟩
  | succ d ih =>
    intro i n w h1 h2 hf ho hz
    obtain ⟨n, rfl⟩ : ∃ m, n = m + 1 := ⟨n - 1, by omega⟩
    have hstep : jb_Model_typeAt_34 fu (n + 1) (nI k) b2 (nI i) w = jb_Model_typeAt_34 fu n (nI k) b2 (nI (i + 1)) (xs_A w 7 (32 * k + i) 0) := by
      conv => lhs; unfold jb_Model_typeAt_34
      simp only [xs_let]
      rw [if_neg (show ¬ (32 : Int32) ≤ nI i from nI_ge (b := 32) (by omega) (by decide)), nI_32, if_neg (nI_in (N := 2048) (by omega) (by decide)), nI_clamp (by omega), nI_1]
    rw [hstep]
    refine ih (i + 1) n _ (by omega) (by omega) (yf_A hf (by decide)) (fun j hj => ?_) (fun j hj => ?_)
    · show upd (w.2.2.1 7) (32 * k + i) 0 j = _
      rw [ya_j (by omega)]; exact ho j (by omega)
    · show upd (w.2.2.1 7) (32 * k + i) 0 (32 * k + j) = _
      by_cases z : j = i
      · rw [z, ya_t]
      · rw [ya_j (by omega)]; exact hz j (by omega)
/-- type k is taken down -/
theorem mm_typeAt {k : Nat} {c : Nat × List Nat × List Nat} (hfu : 100 ≤ fu) (hk : k < 64) (hc : T[k]? = some c) (hp : yp_tf B len p = .inl (c, q)) (h : ym_st B len p u) (h6 : u.1 6 = 0) (h7 : u.1 7 = 0) (hT : yTm T k u) (hL : ∀ i, i < k → u.2.2.1 8 i = nI (yl_f T i)) :
    ∃ v, fm_Model_typeAt fu (nI k) u = some ((), v) ∧ v.1 6 = 0 ∧ yf_fr [4, 7] [] [4, 5, 6, 7, 8] [] u v ∧ ((yv_ty T k c ∧ v.1 7 = 0 ∧ ym_st B len q v ∧ yTm T (k + 1) v ∧ ∀ i, i < k + 1 → v.2.2.1 8 i = nI (yl_f T i)) ∨ (¬ yv_ty T k c ∧ v.1 7 = 1)) := by
  have hkT := yl_lt hc
  have gc := yp_tf_g hp
  obtain ⟨b, q1, p1, p2⟩ := yp_thenI hp
  obtain ⟨⟨b, hb, rfl⟩, hq1, hplt⟩ := yp_bb p1
  have hbc : b = c.1 := by
    by_cases z1 : nI b = 94
    · rw [if_pos z1] at p2
      obtain ⟨l, r2, h2, p2⟩ := yp_thenI p2
      cases p2
      exact (nI_eq (b := 94) (by omega) (by decide)).mp z1
    rw [if_neg z1] at p2
    by_cases z2 : nI b = 95
    · rw [if_pos z2] at p2
      obtain ⟨n, r2, h2, p2⟩ := yp_thenI p2
      obtain ⟨l, r3, h3, p2⟩ := yp_thenI p2
      cases p2
      exact (nI_eq (b := 95) (by omega) (by decide)).mp z2
    rw [if_neg z2] at p2
    by_cases z3 : nI b = 96
    · rw [if_pos z3] at p2
      obtain ⟨n, r2, h2, p2⟩ := yp_thenI p2
      obtain ⟨l, r3, h3, p2⟩ := yp_thenI p2
      obtain ⟨m, r4, h4, p2⟩ := yp_thenI p2
      obtain ⟨s, r5, h5, p2⟩ := yp_thenI p2
      cases p2
      exact (nI_eq (b := 96) (by omega) (by decide)).mp z3
    rw [if_neg z3] at p2
    cases p2
  subst hbc
  have k3 := gc.1
  have e94 : nI c.1 = (94 : Int32) ↔ c.1 = 94 := nI_eq (b := 94) (by omega) (by decide)
  have e95 : nI c.1 = (95 : Int32) ↔ c.1 = 95 := nI_eq (b := 95) (by omega) (by decide)
  have e96 : nI c.1 = (96 : Int32) ↔ c.1 = 96 := nI_eq (b := 96) (by omega) (by decide)
  unfold fm_Model_typeAt
  rw [mk_one h h6 p1, ys_seq]
  have h31 : (if nI c.1 = (96 : Int32) then jb_Model_typeAt_31 fu (nI k) (nI c.1) 0 (nI k) (xs_I u 4 (nI q1)) else if nI c.1 = (95 : Int32) then jb_Model_typeAt_31 fu (nI k) (nI c.1) 1 (nI k) (xs_I u 4 (nI q1)) else jb_Model_typeAt_31 fu (nI k) (nI c.1) 2 (nI k) (xs_I u 4 (nI q1))) = jb_Model_typeAt_34 fu fu (nI k) (nI c.1) (nI 0) (xs_A (xs_I u 4 (nI q1)) 4 k (nI (96 - c.1))) := by
    unfold jb_Model_typeAt_31
    simp only [xs_let]
    rw [ie64 hk, ie64 hk, ie64 hk, nI_clamp (by omega)]
    by_cases z3 : c.1 = 96
    · rw [if_pos (e96.mpr z3), z3]; rfl
    · rw [if_neg (fun z => z3 (e96.mp z))]
      by_cases z2 : c.1 = 95
      · rw [if_pos (e95.mpr z2), z2]; rfl
      · rw [if_neg (fun z => z2 (e95.mp z)), show c.1 = 94 by omega]; rfl
  rw [h31]
  obtain ⟨w, m, g1, g2, g3, g4⟩ := mm_t34 (fu := fu) (u := xs_A (xs_I u 4 (nI q1)) 4 k (nI (96 - c.1))) (b2 := nI c.1) hk 32 0 fu (xs_A (xs_I u 4 (nI q1)) 4 k (nI (96 - c.1))) (by omega) (by omega) yf_refl (fun _ _ => rfl) (fun j hj => by omega)
  rw [g1]
  -- the state behind it
  have hstep : jb_Model_typeAt_34 fu (m + 1) (nI k) (nI c.1) (nI 32) w = if nI c.1 = (96 : Int32) then (xs_seq (fm_Model_partRow fu (nI k) (0 : Int32) (xs_A w 6 k 0)) fun a25 u26 => if (u26.1 7) = (0 : Int32) then ((xs_seq (fm_Model_partRow fu (nI k) (16 : Int32) (xs_A u26 5 k a25)) fun a28 u29 => jb_Model_typeAt_241 fu (nI k) (xs_A u29 6 k a28))) else jb_Model_typeAt_241 fu (nI k) (xs_A (xs_A u26 5 k a25) 6 k 0)) else (if nI c.1 = (94 : Int32) then (jb_Model_typeAt_124 fu (nI k) (1 : Int64) (xs_A w 6 k 0)) else ((xs_seq (fm_Model_number fu (xs_A w 6 k 0)) fun a5 u6 => jb_Model_typeAt_124 fu (nI k) a5 u6))) := by
    conv => lhs; unfold jb_Model_typeAt_34
    unfold jb_Model_typeAt_106
    simp only [xs_let]
    rw [if_pos (show (32 : Int32) ≤ nI 32 by decide), ie64 hk, nI_clamp (by omega)]
    have i2 : ∀ (o : Option (Unit × xk_St)), (if nI k < 0 ∨ 64 ≤ k then none else o) = o := fun o => if_neg fun z => z.elim (nI_pos (by omega)) (by omega)
    simp only [i2]
    rfl
  rw [hstep]
  obtain ⟨x, hx⟩ : ∃ x, x = xs_A w 6 k 0 := ⟨_, rfl⟩
  rw [← hx]
  have xst : ym_st B len q1 x := by
    rw [hx]
    refine ⟨?_, ?_, ?_, by omega, h.2.2.2.2⟩
    · show w.2.2.1 1 = B
      rw [g2.2.2.1 1 (by decide)]; exact h.1
    · show w.1 4 = _
      rw [g2.1 4 (by decide)]; rfl
    · show w.1 5 = _
      rw [g2.1 5 (by decide)]; exact h.2.2.1
  have xw : ∀ i, w.1 i = (xs_I u 4 (nI q1)).1 i := fun i => g2.1 i (by simp)
  have x6 : x.1 6 = 0 := by rw [hx]; show w.1 6 = 0; rw [xw]; exact h6
  have x7 : x.1 7 = 0 := by rw [hx]; show w.1 7 = 0; rw [xw]; exact h7
  have xfr : yf_fr [4, 7] [] [4, 5, 6, 7, 8] [] u x := by
    rw [hx]
    exact yf_A (yf_trans (yf_A (yf_I yf_refl (by decide)) (by decide)) (yf_mono g2 (by decide))) (by decide)
  have xA4 : x.2.2.1 4 = upd (u.2.2.1 4) k (nI (96 - c.1)) := by rw [hx]; show w.2.2.1 4 = _; rw [g2.2.2.1 4 (by decide)]; rfl
  have xA5 : x.2.2.1 5 = u.2.2.1 5 := by rw [hx]; show w.2.2.1 5 = _; rw [g2.2.2.1 5 (by decide)]; rfl
  have xA6 : x.2.2.1 6 = upd (u.2.2.1 6) k 0 := by rw [hx]; show upd (w.2.2.1 6) k 0 = _; rw [g2.2.2.1 6 (by decide)]; rfl
  have xA8 : x.2.2.1 8 = u.2.2.1 8 := by rw [hx]; show w.2.2.1 8 = _; rw [g2.2.2.1 8 (by decide)]; rfl
  have xo : ∀ j, (j < 32 * k ∨ 32 * k + 32 ≤ j) → x.2.2.1 7 j = u.2.2.1 7 j := fun j hj => by rw [hx]; show w.2.2.1 7 j = _; rw [g3 j hj]; rfl
  have xz : ∀ j, j < 32 → x.2.2.1 7 (32 * k + j) = 0 := fun j hj => by rw [hx]; exact g4 j hj
  clear hx hstep g1 g2 g3 g4 xw
  have xK : yKm T (k + 1) x := fun a d ha hd => by
    rw [xA4]
    by_cases z : a = k
    · subst z
      rw [hc] at hd; cases hd
      exact ⟨ya_t, gc⟩
    · rw [ya_j z]
      have := hT a d (by omega) hd
      exact ⟨this.1.1, this.2.1⟩
  -- the end: all is there
  have fin : ∀ y : xk_St, y.1 6 = 0 → y.1 7 = 0 → ym_st B len q y → yf_fr [4, 7] [] [4, 5, 6, 7, 8] [] u y → (∀ i, ¬ i = k → y.2.2.1 4 i = u.2.2.1 4 i) → (∀ i, ¬ i = k → y.2.2.1 5 i = u.2.2.1 5 i) → (∀ i, ¬ i = k → y.2.2.1 6 i = u.2.2.1 6 i) → (∀ i, (i < 32 * k ∨ 32 * k + 32 ≤ i) → y.2.2.1 7 i = u.2.2.1 7 i) → y.2.2.1 8 = u.2.2.1 8 → yTy c k y → yv_ty T k c → ∃ v, jb_Model_typeAt_241 fu (nI k) y = some ((), v) ∧ v.1 6 = 0 ∧ yf_fr [4, 7] [] [4, 5, 6, 7, 8] [] u v ∧ ((yv_ty T k c ∧ v.1 7 = 0 ∧ ym_st B len q v ∧ yTm T (k + 1) v ∧ ∀ i, i < k + 1 → v.2.2.1 8 i = nI (yl_f T i)) ∨ (¬ yv_ty T k c ∧ v.1 7 = 1)) := by
    intro y y6 y7 yst yfr y4 y5 y6' y7' y8 hy hv
    have hty : ∀ (j : Nat) d, j ≤ k → T[j]? = some d → yTy d j y ∧ yg_ty d ∧ yv_ty T j d := fun j d hj hd => by
      by_cases z : j = k
      · subst z
        rw [hc] at hd; cases hd
        exact ⟨hy, gc, hv⟩
      · have := hT j d (by omega) hd
        exact ⟨yTyK this.1 z y4 y5 y6' y7', this.2⟩
    obtain ⟨z, e1, e2, e3, e4⟩ := mm_241 hfu hk hc hty (fun i hi => by rw [y8]; exact hL i hi) y7
    refine ⟨z, e1, (e2.1 6 (by decide)).trans y6, yf_trans yfr (yf_mono e2 (by decide)), Or.inl ⟨hv, (e2.1 7 (by decide)).trans y7, ?_, fun j d hj hd => ?_, fun i hi => ?_⟩⟩
    · exact ⟨(e2.2.2.1 1 (by decide)).trans yst.1, (e2.1 4 (by decide)).trans yst.2.1, (e2.1 5 (by decide)).trans yst.2.2.1, yst.2.2.2⟩
    · have := hty j d (by omega) hd
      exact ⟨yTyS this.1 (e2.2.2.1 4 (by decide)) (e2.2.2.1 5 (by decide)) (e2.2.2.1 6 (by decide)) (e2.2.2.1 7 (by decide)), this.2⟩
    · by_cases z : i = k
      · rw [z]; exact e4
      · rw [e3 i z, y8]; exact hL i (by omega)
  -- the end: something is wrong
  have bad : ∀ y : xk_St, y.1 6 = 0 → y.1 7 = 1 → yf_fr [4, 7] [] [4, 5, 6, 7, 8] [] u y → ¬ yv_ty T k c → ∃ v, jb_Model_typeAt_241 fu (nI k) y = some ((), v) ∧ v.1 6 = 0 ∧ yf_fr [4, 7] [] [4, 5, 6, 7, 8] [] u v ∧ ((yv_ty T k c ∧ v.1 7 = 0 ∧ ym_st B len q v ∧ yTm T (k + 1) v ∧ ∀ i, i < k + 1 → v.2.2.1 8 i = nI (yl_f T i)) ∨ (¬ yv_ty T k c ∧ v.1 7 = 1)) := by
    intro y y6 y7 yfr hv
    obtain ⟨z, e1, e2⟩ := mx_241 hfu hk y7
    exact ⟨z, e1, (e2.1 6 (by decide)).trans y6, yf_trans yfr (yf_mono e2 (by decide)), Or.inr ⟨hv, (e2.1 7 (by decide)).trans y7⟩⟩
  by_cases z96 : c.1 = 96
  · rw [if_pos (e96.mpr z96)]
    rw [z96, if_neg (show ¬ nI 96 = 94 by decide), if_neg (show ¬ nI 96 = 95 by decide), if_pos (show nI 96 = 96 from rfl)] at p2
    obtain ⟨n, r2, h2, p2⟩ := yp_thenI p2
    obtain ⟨l, r3, h3, p2⟩ := yp_thenI p2
    obtain ⟨n2, r4, h4, p2⟩ := yp_thenI p2
    obtain ⟨s, r5, h5, p2⟩ := yp_thenI p2
    have hcl : c.2.1 = l ∧ c.2.2 = s ∧ r5 = q := by
      have := Sum.inl.inj p2
      injection this with a b
      rw [← a]
      exact ⟨rfl, rfl, b⟩
    obtain ⟨rfl, rfl, rfl⟩ := hcl
    obtain ⟨r, y, a1, a2, a3, a4, a5⟩ := mm_partRow (T := T) (u := x) (o := 0) hfu (Or.inl rfl) hk (by omega) xK xst x6 x7 h2 h3 (fun i hi => by rw [Nat.add_zero]; exact xz i (by omega))
    have a1' : fm_Model_partRow fu (nI k) 0 x = some (r, y) := a1
    rw [a1', ys_seq]
    rcases a5 with ⟨⟨b1, b2⟩, b3, b4, b5, b6⟩ | ⟨b1, b2⟩
    · rw [if_pos b4]
      have yK : yKm T (k + 1) (xs_A y 5 k r) := fun a d ha hd => by
        have := xK a d ha hd
        refine ⟨?_, this.2⟩
        show y.2.2.1 4 a = _
        rw [a3.2.2.1 4 (by decide)]; exact this.1
      obtain ⟨r2', y2, d1, d2, d3, d4, d5⟩ := mm_partRow (T := T) (u := xs_A y 5 k r) (o := 16) hfu (Or.inr rfl) hk (by omega) yK b5 a2 b4 h4 h5 (fun i hi => by
        show y.2.2.1 7 (32 * k + 16 + i) = 0
        rw [a4 _ (by omega), Nat.add_assoc]; exact xz (16 + i) (by omega))
      have d1' : fm_Model_partRow fu (nI k) 16 (xs_A y 5 k r) = some (r2', y2) := d1
      rw [d1', ys_seq]
      have yfr2 : yf_fr [4, 7] [] [4, 5, 6, 7, 8] [] u (xs_A y2 6 k r2') := yf_A (yf_trans (yf_A (yf_trans xfr (yf_mono a3 (by decide))) (by decide)) (yf_mono d3 (by decide))) (by decide)
      have yA5 : y2.2.2.1 5 = upd (u.2.2.1 5) k r := by rw [d3.2.2.1 5 (by decide)]; show upd (y.2.2.1 5) k r = _; rw [a3.2.2.1 5 (by decide), xA5]
      have yA4 : y2.2.2.1 4 = upd (u.2.2.1 4) k (nI (96 - c.1)) := by rw [d3.2.2.1 4 (by decide)]; show y.2.2.1 4 = _; rw [a3.2.2.1 4 (by decide), xA4]
      have yA6 : y2.2.2.1 6 = upd (u.2.2.1 6) k 0 := by rw [d3.2.2.1 6 (by decide)]; show y.2.2.1 6 = _; rw [a3.2.2.1 6 (by decide), xA6]
      rcases d5 with ⟨⟨f1, f2⟩, f3, f4, f5, f6⟩ | ⟨f1, f2⟩
      · refine fin (xs_A y2 6 k r2') d2 f4 f5 yfr2 (fun i hi => ?_) (fun i hi => ?_) (fun i hi => ?_) (fun i hi => ?_) ?_ ⟨?_, ?_, ?_, fun i hi => ?_, fun i hi => ?_⟩ ⟨b1, fun _ => f1, b2, fun _ => f2⟩
        · show y2.2.2.1 4 i = _
          rw [yA4, ya_j hi]
        · show y2.2.2.1 5 i = _
          rw [yA5, ya_j hi]
        · show upd (y2.2.2.1 6) k r2' i = _
          rw [ya_j hi, yA6, ya_j hi]
        · show y2.2.2.1 7 i = _
          rw [d4 i (by omega)]
          show y.2.2.1 7 i = _
          rw [a4 i (by omega), xo i hi]
        · show y2.2.2.1 8 = _
          rw [d3.2.2.1 8 (by decide)]
          show y.2.2.1 8 = _
          rw [a3.2.2.1 8 (by decide), xA8]
        · show y2.2.2.1 4 k = _
          rw [yA4, ya_t]
        · show y2.2.2.1 5 k = _
          rw [yA5, ya_t, b3]
        · show upd (y2.2.2.1 6) k r2' k = _
          rw [ya_t, f3, if_pos z96]
        · show y2.2.2.1 7 (32 * k + i) = _
          rw [d4 _ (by omega)]
          show y.2.2.1 7 (32 * k + i) = _
          have := b6 i hi
          rw [Nat.add_zero] at this
          exact this
        · exact f6 i hi
      · exact bad _ d2 f2 yfr2 (fun z => f1 ⟨z.2.1 z96, z.2.2.2 z96⟩)
    · rw [if_neg (show ¬ y.1 7 = 0 by rw [b2]; decide)]
      exact bad _ a2 b2 (yf_A (yf_A (yf_trans xfr (yf_mono a3 (by decide))) (by decide)) (by decide)) (fun z => b1 ⟨z.1, z.2.2.1⟩)
  · rw [if_neg (fun z => z96 (e96.mp z))]
    rw [if_neg (show ¬ nI c.1 = 96 from fun z => z96 (e96.mp z))] at p2
    -- the fields
    have hfl : ∃ (l : List (Nat × Nat)) (q2 : Nat) (y : xk_St), c.2.1 = l.map Prod.fst ∧ c.2.2 = l.map Prod.snd ∧ yp_rep (yp_fld B len) l.length q2 = .inl (l, q) ∧ l.length < 2 ^ 32 ∧ y = xs_I x 4 (nI q2) ∧ ym_st B len q2 y ∧ (if nI c.1 = (94 : Int32) then (jb_Model_typeAt_124 fu (nI k) (1 : Int64) x) else ((xs_seq (fm_Model_number fu x) fun a5 u6 => jb_Model_typeAt_124 fu (nI k) a5 u6))) = jb_Model_typeAt_124 fu (nI k) (lN l.length) y := by
      by_cases z94 : c.1 = 94
      · rw [if_pos (e94.mpr z94)] at p2
        obtain ⟨l, r2, h2, p2⟩ := yp_thenI p2
        have hl := yp_repl h2
        have hcc := Sum.inl.inj p2
        injection hcc with a b
        refine ⟨l, q1, x, by rw [← a], by rw [← a], by rw [hl, ← b]; exact h2, by rw [hl]; decide, (ys_Is xst.2.1).symm, xst, ?_⟩
        rw [if_pos (e94.mpr z94), hl]; rfl
      · have z95 : c.1 = 95 := by omega
        rw [if_neg (fun z => z94 (e94.mp z)), if_pos (e95.mpr z95)] at p2
        obtain ⟨n, r2, h2, p2⟩ := yp_thenI p2
        obtain ⟨l, r3, h3, p2⟩ := yp_thenI p2
        have hl := yp_repl h3
        have hcc := Sum.inl.inj p2
        injection hcc with a b
        have hnb := yp_Nb h2
        refine ⟨l, r2, xs_I x 4 (nI r2), by rw [← a], by rw [← a], by rw [hl, ← b]; exact h3, by omega, rfl, ym_mv xst (by omega), ?_⟩
        rw [if_neg (fun z => z94 (e94.mp z)), mk_N (by omega) xst x6 h2, ys_seq, hl]
    obtain ⟨l, q2, y, c1, c2, hrep, hl32, hy, yst, hgo⟩ := hfl
    rw [hgo]
    have y6 : y.1 6 = 0 := by rw [hy]; exact x6
    have y7 : y.1 7 = 0 := by rw [hy]; exact x7
    unfold jb_Model_typeAt_124 jb_Model_typeAt_141 jb_Model_typeAt_146
    simp only [xs_let, if_true, or_true, true_or]
    rw [if_pos y7]
    have h160w : ∀ y : xk_St, y.1 7 = 1 → jb_Model_typeAt_160 fu fu (nI k) (lN l.length) 0 y = jb_Model_typeAt_241 fu (nI k) y := fun y hy => by
      obtain ⟨f, hf⟩ : ∃ m, fu = m + 1 := ⟨fu - 1, by omega⟩
      conv => lhs; rw [hf]
      unfold jb_Model_typeAt_160
      simp only [xs_let]
      rw [if_neg (show ¬ y.1 7 = 0 by rw [hy]; decide), ← hf]
      split <;> rfl
    have c1l : c.2.1.length = l.length := by rw [c1, List.length_map]
    have yfrb : ∀ s t, yf_fr [4, 7] [] [4, 5, 6, 7, 8] [] u (xs_A (xs_I y 7 s) 5 k t) := fun s t => by
      rw [hy]
      exact yf_A (yf_I (yf_I xfr (by decide)) (by decide)) (by decide)
    by_cases h16 : l.length ≤ 16
    · rw [if_pos (show lN l.length ≤ 16 from (pk_lLE (b := 16) (by omega) (by decide)).mpr h16), ie64 hk, nI_clamp (by omega), lN_i]
      have yK : yKm T (k + 1) (xs_A (xs_I y 7 0) 5 k (nI l.length)) := fun a d ha hd => by
        have := xK a d ha hd
        refine ⟨?_, this.2⟩
        show y.2.2.1 4 a = _
        rw [hy]; exact this.1
      obtain ⟨z, d1, d2, d3, d4, d5⟩ := mm_fields (T := T) (u := xs_A (xs_I y 7 0) 5 k (nI l.length)) hfu hk (by omega) yK h16 yst y6 rfl hrep (fun i hi => by
        show y.2.2.1 7 (32 * k + i) = 0
        rw [hy]; exact xz i hi)
      rw [d1]
      have zfr : yf_fr [4, 7] [] [4, 5, 6, 7, 8] [] u z := yf_trans (yfrb 0 (nI l.length)) (yf_mono d3 (by decide))
      rcases d5 with ⟨f1, f2, f3, f4, f5⟩ | ⟨f1, f2⟩
      · refine fin z d2 f2 f3 zfr (fun i hi => ?_) (fun i hi => ?_) (fun i hi => ?_) (fun i hi => ?_) ?_ ⟨?_, ?_, ?_, fun i hi => ?_, fun i hi => ?_⟩ ⟨by omega, fun z => absurd z z96, by rw [c1]; exact f1, fun z => absurd z z96⟩
        · rw [d3.2.2.1 4 (by decide)]
          show y.2.2.1 4 i = _
          rw [hy]; show x.2.2.1 4 i = _
          rw [xA4, ya_j hi]
        · rw [d3.2.2.1 5 (by decide)]
          show upd (y.2.2.1 5) k _ i = _
          rw [ya_j hi, hy]; show x.2.2.1 5 i = _
          rw [xA5]
        · rw [d3.2.2.1 6 (by decide)]
          show y.2.2.1 6 i = _
          rw [hy]; show x.2.2.1 6 i = _
          rw [xA6, ya_j hi]
        · rw [d4 i hi]
          show y.2.2.1 7 i = _
          rw [hy]; exact xo i hi
        · rw [d3.2.2.1 8 (by decide)]
          show y.2.2.1 8 = _
          rw [hy]; exact xA8
        · rw [d3.2.2.1 4 (by decide)]
          show y.2.2.1 4 k = _
          rw [hy]; show x.2.2.1 4 k = _
          rw [xA4, ya_t]
        · rw [d3.2.2.1 5 (by decide)]
          show upd (y.2.2.1 5) k _ k = _
          rw [ya_t, c1l]
        · rw [d3.2.2.1 6 (by decide)]
          show y.2.2.1 6 k = _
          rw [hy]; show x.2.2.1 6 k = _
          rw [xA6, ya_t, if_neg z96]; rfl
        · rw [c1]; exact f4 i hi
        · rw [c2]; exact f5 i hi
      · exact bad z d2 f2 zfr (fun z => f1 (by rw [← c1]; exact z.2.2.1))
    · rw [if_neg (show ¬ lN l.length ≤ 16 from fun z => h16 ((pk_lLE (b := 16) (by omega) (by decide)).mp z)), ie64 hk, nI_clamp (by omega), h160w _ rfl]
      exact bad _ y6 rfl (yfrb 1 _) (fun z => by have := z.1; omega)
end
