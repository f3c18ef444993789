section
variable {α β γ δ : Type} {B : Nat → Int32} {u v w : xk_St} {L lim p q fu D len : Nat} {e : Int32} {T : List (Nat × List Nat × List Nat)} {g : Nat → Nat}
theorem yl_mf {l : List (Nat × Nat)} {i : Nat} {x : Nat} (h : (l.map Prod.fst)[i]? = some x) : ∃ y, l[i]? = some (x, y) := by
  rw [List.getElem?_map] at h
  cases hh : l[i]? with
  | none => rw [hh] at h; cases h
  | some a => rw [hh] at h; cases h; exact ⟨a.2, rfl⟩
theorem yp_Vc {c : Nat} (h : yp_V B lim p = .inl (c, q)) : c = 1 ∨ c = 2 ∨ 16 ≤ c := by
  obtain ⟨b, r, h1, h⟩ := yp_thenI h
  by_cases z1 : b = 99
  · rw [if_pos z1] at h
    obtain ⟨t, r2, h2, h⟩ := yp_thenI h
    cases h; omega
  rw [if_neg z1] at h
  by_cases z2 : b = 100
  · rw [if_pos z2] at h
    obtain ⟨t, r2, h2, h⟩ := yp_thenI h
    cases h; omega
  rw [if_neg z2] at h
  by_cases z3 : b = 108
  · rw [if_pos z3] at h; cases h; omega
  rw [if_neg z3] at h
  by_cases z4 : b = 109
  · rw [if_pos z4] at h; cases h; omega
  rw [if_neg z4] at h
  by_cases z5 : b = 126
  · rw [if_pos z5] at h; cases h; omega
  rw [if_neg z5] at h
  by_cases z6 : b = 127
  · rw [if_pos z6] at h; cases h; omega
  rw [if_neg z6] at h
  cases h
theorem yp_Fc {c : Nat} (h : yp_F B lim p = .inl (c, q)) : c = 3 ∨ c = 4 ∨ (∃ r, yp_V B lim r = .inl (c, q)) := by
  obtain ⟨b, r, h1, h⟩ := yp_thenI h
  by_cases z1 : b = 120
  · rw [if_pos z1] at h; cases h; exact Or.inl rfl
  rw [if_neg z1] at h
  by_cases z2 : b = 119
  · rw [if_pos z2] at h; cases h; exact Or.inr (Or.inl rfl)
  rw [if_neg z2] at h
  exact Or.inr (Or.inr ⟨r, h⟩)
theorem yp_Fb {c : Nat} (h : yp_F B lim p = .inl (c, q)) : 0 < c ∧ c ≤ 149 := by
  rcases yp_Fc h with z | z | ⟨r, z⟩
  · omega
  · omega
  · exact yp_Vb z
/-- the fields of a type are taken down -/
theorem mm_fields {k e : Nat} {l : List (Nat × Nat)} (hfu : 100 ≤ fu) (hk : k < 64) (hkT : k + 1 ≤ T.length) (hK : yKm T (k + 1) u) (hl16 : l.length ≤ 16) (h : ym_st B len q u) (h6 : u.1 6 = 0) (h7 : u.1 7 = 0) (e2 : yp_rep (yp_fld B len) l.length q = .inl (l, e)) (hz : ∀ i, i < 32 → u.2.2.1 7 (32 * k + i) = 0) :
    ∃ v, jb_Model_typeAt_160 fu fu (nI k) (lN l.length) 0 u = jb_Model_typeAt_241 fu (nI k) v ∧ v.1 6 = 0 ∧ yf_fr [4, 7] [] [7] [] u v ∧ (∀ i, (i < 32 * k ∨ 32 * k + 32 ≤ i) → v.2.2.1 7 i = u.2.2.1 7 i) ∧ (((∀ (i : Nat) x, (l.map Prod.fst)[i]? = some x → yv_in T (k + 1) x) ∧ v.1 7 = 0 ∧ ym_st B len e v ∧ (∀ i, i < 16 → v.2.2.1 7 (32 * k + i) = nI ((l.map Prod.fst).getD i 0)) ∧ ∀ i, i < 16 → v.2.2.1 7 (32 * k + 16 + i) = nI ((l.map Prod.snd).getD i 0)) ∨ (¬ (∀ (i : Nat) x, (l.map Prod.fst)[i]? = some x → yv_in T (k + 1) x) ∧ v.1 7 = 1)) := by
  have := mt_loop (B := B) (len := len) (l := l) (it := yp_fld B len) (fun _ x => yv_in T (k + 1) x.1) (fun j v => yf_fr [4, 7] [] [7] [] u v ∧ (∀ i, (i < 32 * k ∨ 32 * k + 32 ≤ i) → v.2.2.1 7 i = u.2.2.1 7 i) ∧ (∀ i, i < 16 → v.2.2.1 7 (32 * k + i) = nI (if i < j then (l.map Prod.fst).getD i 0 else 0)) ∧ ∀ i, i < 16 → v.2.2.1 7 (32 * k + 16 + i) = nI (if i < j then (l.map Prod.snd).getD i 0 else 0)) (fun v => yf_fr [4, 7] [] [7] [] u v ∧ (∀ i, (i < 32 * k ∨ 32 * k + 32 ≤ i) → v.2.2.1 7 i = u.2.2.1 7 i)) (fun m j v => jb_Model_typeAt_160 fu m (nI k) (lN l.length) (nI j) v) (fun v => jb_Model_typeAt_241 fu (nI k) v) (fun m v => ?_) (fun m j v hj hv => ?_) (fun m j x p q v hl hp hv v6 v7 hI => ?_) l.length 0 q e fu u (by omega) (by omega) (by rw [List.drop_zero]; exact e2) (fun _ => h) h6 h7 ⟨yf_refl, fun _ _ => rfl, fun i hi => by
      rw [if_neg (by omega)]
      exact hz i (by omega), fun i hi => by
      rw [if_neg (by omega), Nat.add_assoc]
      exact hz (16 + i) (by omega)⟩
  · obtain ⟨v, g1, g2, g3⟩ := this
    refine ⟨v, g1, g2, ?_⟩
    rcases g3 with ⟨c1, c2, c3, c4⟩ | ⟨⟨j, x, c1, c1'⟩, c2, c3⟩
    · refine ⟨c3.1, c3.2.1, Or.inl ⟨fun i x hx => ?_, c2, c4 h, fun i hi => ?_, fun i hi => ?_⟩⟩
      · obtain ⟨y, hy⟩ := yl_mf hx
        exact c1 i (x, y) (Nat.zero_le _) hy
      · rw [c3.2.2.1 i hi]
        by_cases z : i < l.length
        · rw [if_pos z]
        · rw [if_neg z, List.getD_eq_getElem?_getD, List.getElem?_eq_none (by rw [List.length_map]; omega)]; rfl
      · rw [c3.2.2.2 i hi]
        by_cases z : i < l.length
        · rw [if_pos z]
        · rw [if_neg z, List.getD_eq_getElem?_getD, List.getElem?_eq_none (by rw [List.length_map]; omega)]; rfl
    · refine ⟨c3.1, c3.2, Or.inr ⟨fun z => c1' (z j x.1 ?_), c2⟩⟩
      rw [List.getElem?_map, c1]; rfl
  · show jb_Model_typeAt_160 fu (m + 1) (nI k) (lN l.length) (nI l.length) v = _
    unfold jb_Model_typeAt_160
    simp only [xs_let]
    rw [nI_toL (by omega), if_pos (Int64.le_refl _)]
  · show jb_Model_typeAt_160 fu (m + 1) (nI k) (lN l.length) (nI j) v = _
    unfold jb_Model_typeAt_160
    simp only [xs_let]
    rw [if_neg (show ¬ v.1 7 = 0 by rw [hv]; decide)]
    split <;> rfl
  · have hjl := yl_lt hl
    obtain ⟨i1, i2, i3, i4⟩ := hI
    obtain ⟨c, q1, p1, p2⟩ := yp_thenI hp
    obtain ⟨f, q2, p3, p4⟩ := yp_thenI p2
    cases p4
    have hce := yp_F_eats p1
    have hcb : 0 < c ∧ c ≤ 149 := yp_Fb p1
    have hfe := yp_fb p3
    have hK2 : yKm T (k + 1) (xs_I v 4 (nI q1)) := fun a b ha hb => by
      have := hK a b ha hb
      refine ⟨?_, this.2⟩
      show v.2.2.1 4 a = _
      rw [i1.2.2.1 4 (by decide)]
      exact this.1
    obtain ⟨t1, t2⟩ := mm_there (x := c) (n := k + 1) (u := xs_I v 4 (nI q1)) (by omega) (by omega) hkT hK2
    have hstep : jb_Model_typeAt_160 fu (m + 1) (nI k) (lN l.length) (nI j) v = xs_seq (fm_Model_isThere (nI c) (nI (k + 1)) (xs_I v 4 (nI q1))) fun a6 u7 => if a6 = 0 then jb_Model_typeAt_199 fu (jb_Model_typeAt_160 fu m) (nI k) (lN l.length) (nI j) (nI c) 1 u7 else jb_Model_typeAt_199 fu (jb_Model_typeAt_160 fu m) (nI k) (lN l.length) (nI j) (nI c) 0 u7 := by
      conv => lhs; unfold jb_Model_typeAt_160
      simp only [xs_let]
      rw [nI_toL (by omega), if_neg (fun z => by have := (pk_lLE (by omega) (by omega)).mp z; omega), if_pos v7, mk_F (by omega) hv v6 p1, ys_seq, nI_1]
    have h199 : ∀ s : Int32, (s = 0 ∨ s = 1) → jb_Model_typeAt_199 fu (jb_Model_typeAt_160 fu m) (nI k) (lN l.length) (nI j) (nI c) s (xs_I v 4 (nI q1)) = jb_Model_typeAt_160 fu m (nI k) (lN l.length) (nI (j + 1)) (xs_A (xs_I (xs_A (xs_I (xs_I v 4 (nI q1)) 7 s) 7 (32 * k + j) (nI c)) 4 (nI q)) 7 (32 * k + 16 + j) (nI f)) := fun s hs => by
      have hoff : (32 : Int32) * nI k + (16 : Int32) = nI (32 * k + 16) := nI_32 (i := 16)
      have hst : ym_st B len q1 (xs_A (xs_I (xs_I v 4 (nI q1)) 7 s) 7 (32 * k + j) (nI c)) := ⟨hv.1, rfl, hv.2.2.1, hce.2, hv.2.2.2.2⟩
      unfold jb_Model_typeAt_199
      simp only [xs_let]
      rw [if_pos hs, nI_32, if_neg (nI_in (N := 2048) (by omega) (by decide)), nI_clamp (by omega), mk_flag hst v6 p3, ys_seq, hoff, nI_add, if_neg (nI_in (N := 2048) (by omega) (by decide)), nI_clamp (by omega), nI_1]
    have hfr : ∀ s : Int32, yf_fr [4, 7] [] [7] [] u (xs_A (xs_I (xs_A (xs_I (xs_I v 4 (nI q1)) 7 s) 7 (32 * k + j) (nI c)) 4 (nI q)) 7 (32 * k + 16 + j) (nI f)) ∧ (∀ i, (i < 32 * k ∨ 32 * k + 32 ≤ i) → (xs_A (xs_I (xs_A (xs_I (xs_I v 4 (nI q1)) 7 s) 7 (32 * k + j) (nI c)) 4 (nI q)) 7 (32 * k + 16 + j) (nI f)).2.2.1 7 i = u.2.2.1 7 i) := fun s => by
      refine ⟨yf_A (yf_I (yf_A (yf_I (yf_I i1 (by decide)) (by decide)) (by decide)) (by decide)) (by decide), fun i hi => ?_⟩
      show upd (upd (v.2.2.1 7) (32 * k + j) (nI c)) (32 * k + 16 + j) (nI f) i = _
      rw [ya_j (by omega), ya_j (by omega)]
      exact i2 i hi
    have hst2 : ym_st B len q (xs_A (xs_I (xs_A (xs_I (xs_I v 4 (nI q1)) 7 0) 7 (32 * k + j) (nI c)) 4 (nI q)) 7 (32 * k + 16 + j) (nI f)) := ⟨hv.1, rfl, hv.2.2.1, by omega, hv.2.2.2.2⟩
    have gf : (l.map Prod.fst).getD j 0 = c := yl_gds (by rw [List.getElem?_map, hl]; rfl)
    have gs : (l.map Prod.snd).getD j 0 = f := yl_gds (by rw [List.getElem?_map, hl]; rfl)
    show ∃ v', jb_Model_typeAt_160 fu (m + 1) (nI k) (lN l.length) (nI j) v = _ ∧ _
    rw [hstep]
    by_cases ht : yv_in T (k + 1) c
    · rw [t1 ht, ys_seq, if_neg (show ¬ (1 : Int32) = 0 by decide), h199 0 (Or.inl rfl)]
      refine ⟨_, rfl, v6, Or.inl ⟨ht, rfl, hst2, (hfr 0).1, (hfr 0).2, fun i hi => ?_, fun i hi => ?_⟩⟩
      · show upd (upd (v.2.2.1 7) (32 * k + j) (nI c)) (32 * k + 16 + j) (nI f) (32 * k + i) = _
        rw [ya_j (by omega)]
        by_cases z : i = j
        · rw [z, ya_t, if_pos (by omega), gf]
        · rw [ya_j (by omega), i3 i hi]
          by_cases z2 : i < j
          · rw [if_pos z2, if_pos (by omega)]
          · rw [if_neg z2, if_neg (by omega)]
      · show upd (upd (v.2.2.1 7) (32 * k + j) (nI c)) (32 * k + 16 + j) (nI f) (32 * k + 16 + i) = _
        by_cases z : i = j
        · rw [z, ya_t, if_pos (by omega), gs]
        · rw [ya_j (by omega), ya_j (by omega), i4 i hi]
          by_cases z2 : i < j
          · rw [if_pos z2, if_pos (by omega)]
          · rw [if_neg z2, if_neg (by omega)]
    · rw [t2 ht, ys_seq, if_pos rfl, h199 1 (Or.inr rfl)]
      exact ⟨_, rfl, v6, Or.inr ⟨ht, rfl, hfr 1⟩⟩
end
