theorem ys_Ag {u : xk_St} {k i : Nat} {x : Int32} : (xs_A u k i x).2.2.1 k = upd (u.2.2.1 k) i x := if_pos rfl
theorem ys_An {u : xk_St} {k i j : Nat} {x : Int32} (h : ¬ j = k) : (xs_A u k i x).2.2.1 j = u.2.2.1 j := if_neg h
theorem ys_Bg {u : xk_St} {k i : Nat} {x : Int64} : (xs_B u k i x).2.2.2 k = vp_updL (u.2.2.2 k) i x := if_pos rfl
theorem ys_Bn {u : xk_St} {k i j : Nat} {x : Int64} (h : ¬ j = k) : (xs_B u k i x).2.2.2 j = u.2.2.2 j := if_neg h
section
variable {α β γ δ : Type} {B : Nat → Int32} {u v w : xk_St} {lim p q fu : Nat} {e : Int32}
theorem yp_then_then {m : (α × Nat) ⊕ Nat} {g : α → Nat → (β × Nat) ⊕ Nat} {h : β → Nat → (γ × Nat) ⊕ Nat} : yp_then (yp_then m g) h = yp_then m fun a q => yp_then (g a q) h := by
  rcases m with ⟨a, q⟩ | k <;> rfl
theorem yp_then_ite {c : Prop} [Decidable c] {s t : (α × Nat) ⊕ Nat} {h : α → Nat → (β × Nat) ⊕ Nat} : yp_then (if c then s else t) h = if c then yp_then s h else yp_then t h := by
  split <;> rfl
theorem yp_then_l {a : α} {h : α → Nat → (β × Nat) ⊕ Nat} : yp_then (.inl (a, q)) h = h a q := rfl
theorem yp_then_r {k : Nat} {h : α → Nat → (β × Nat) ⊕ Nat} : yp_then (.inr k) h = .inr k := rfl
theorem yp_thenI {m : (α × Nat) ⊕ Nat} {g : α → Nat → (β × Nat) ⊕ Nat} {b : β} {r : Nat} (h : yp_then m g = .inl (b, r)) : ∃ a q, m = .inl (a, q) ∧ g a q = .inl (b, r) := by
  rcases m with ⟨a, q⟩ | k
  · exact ⟨a, q, rfl, h⟩
  · cases h
theorem yp_Sg_eats {w : Nat} : ∀ (d k p : Nat) (x v : Int64) (q : Nat), yp_Sg B lim w d k p x = .inl (v, q) → p < q ∧ q ≤ lim := by
  intro d
  induction d with
  | zero => intro k p x v q h; cases h
  | succ d ih =>
    intro k p x v q h
    unfold yp_Sg at h
    by_cases h1 : w ≤ 7 * k
    · rw [if_pos h1] at h; cases h
    rw [if_neg h1] at h
    by_cases h2 : lim ≤ p
    · rw [if_pos h2] at h; cases h
    rw [if_neg h2] at h
    by_cases h3 : (128 : Int32) ≤ yb_b B p
    · rw [if_pos h3] at h
      have := ih _ _ _ _ _ h
      omega
    · rw [if_neg h3] at h
      unfold yp_Se at h
      split at h
      · split at h
        · cases h; omega
        · cases h
      · split at h
        · cases h; omega
        · cases h
theorem yp_S_eats {w : Nat} {x : Int64} (h : yp_S B lim w p = .inl (x, q)) : p < q ∧ q ≤ lim := yp_Sg_eats _ _ _ _ _ _ h
theorem yp_pk {b : Int32} (h : yp_peek B lim p = .inl (b, q)) : q = p ∧ p < lim := by
  unfold yp_peek at h
  by_cases hc : lim ≤ p
  · rw [if_pos hc] at h; cases h
  · rw [if_neg hc] at h; cases h; exact ⟨rfl, by omega⟩
theorem yp_T_eats {t : Nat} (h : yp_T B lim p = .inl (t, q)) : p < q ∧ q ≤ lim := by
  unfold yp_T at h
  obtain ⟨b, r, h1, h2⟩ := yp_thenI h
  obtain ⟨rfl, h3⟩ := yp_pk h1
  split at h2
  · cases h2; omega
  · split at h2
    · cases h2; omega
    · obtain ⟨x, q', h4, h5⟩ := yp_thenI h2
      have := yp_S_eats h4
      split at h5
      · cases h5; exact this
      · cases h5
theorem yp_V_eats {c : Nat} (h : yp_V B lim p = .inl (c, q)) : p < q ∧ q ≤ lim := by
  unfold yp_V at h
  obtain ⟨b, r, h1, h2⟩ := yp_thenI h
  obtain ⟨-, rfl, h3⟩ := yp_bb h1
  have hT : ∀ {f : Nat → Nat → (Nat × Nat) ⊕ Nat}, (∀ t r, ∃ c, f t r = .inl (c, r)) → yp_then (yp_T B lim (p + 1)) f = .inl (c, q) → p < q ∧ q ≤ lim := by
    intro f hf h
    obtain ⟨t, q', h4, h5⟩ := yp_thenI h
    have := yp_T_eats h4
    obtain ⟨c', hc⟩ := hf t q'
    rw [hc] at h5
    cases h5
    omega
  split at h2
  · exact hT (fun t r => ⟨_, rfl⟩) h2
  · split at h2
    · exact hT (fun t r => ⟨_, rfl⟩) h2
    · split at h2
      · cases h2; omega
      · split at h2
        · cases h2; omega
        · split at h2
          · cases h2; omega
          · split at h2
            · cases h2; omega
            · cases h2
theorem yp_F_eats {c : Nat} (h : yp_F B lim p = .inl (c, q)) : p < q ∧ q ≤ lim := by
  unfold yp_F at h
  obtain ⟨b, r, h1, h2⟩ := yp_thenI h
  obtain ⟨rfl, h3⟩ := yp_pk h1
  split at h2
  · cases h2; omega
  · split at h2
    · cases h2; omega
    · exact yp_V_eats h2
/-- a field -/
def yp_fld (B : Nat → Int32) (lim p : Nat) : ((Nat × Nat) × Nat) ⊕ Nat := yp_then (yp_F B lim p) fun c q => yp_then (yp_flag B lim q) fun f r => .inl ((c, f), r)
theorem yp_fld_eats : yp_eats lim (yp_fld B lim) := by
  intro p a q h
  obtain ⟨c, r, h1, h2⟩ := yp_thenI h
  obtain ⟨f, r', h3, h4⟩ := yp_thenI h2
  have := yp_F_eats h1
  obtain ⟨-, rfl, h5⟩ := yp_fb h3
  cases h4
  omega
theorem hh_min {k : Nat} (hk : k < 2147483648) : (if (16 : Int32) < nI k then (16 : Int32) else nI k) = nI (min k 16) := by
  by_cases h : 16 < k
  · rw [if_pos (show (16 : Int32) < nI k from nI_lt (a := 16) h (by omega)), Nat.min_eq_right (by omega)]; rfl
  · rw [if_neg (fun z => by have := (nI_ltI (a := 16) (b := k) (by decide) (by omega)).mp z; omega), Nat.min_eq_left (by omega)]
theorem hh_min64 {k : Nat} (hk : k < 2147483648) : (if (64 : Int32) < nI k then (64 : Int32) else nI k) = nI (min k 64) := by
  by_cases h : 64 < k
  · rw [if_pos (show (64 : Int32) < nI k from nI_lt (a := 64) h (by omega)), Nat.min_eq_right (by omega)]; rfl
  · rw [if_neg (fun z => by have := (nI_ltI (a := 64) (b := k) (by decide) (by omega)).mp z; omega), Nat.min_eq_left (by omega)]
theorem hh_setM {t k : Nat} {c : Int32} (ht : t ≤ 64) (hk : k < 2147483648) : fm_Types_setMember (nI t) (nI k) c u = some ((), xs_A u 6 (34 * t + min k 16) c) := by
  unfold fm_Types_setMember
  have e : (34 : Int32) * nI t + (if (16 : Int32) < nI k then (16 : Int32) else nI k) = nI (34 * t + min k 16) := by
    rw [hh_min hk, show (34 : Int32) = nI 34 from rfl, pk_mul, nI_add]
  rw [e, if_neg (nI_in (N := 2210) (by omega) (by decide)), nI_clamp (by omega)]
  rfl
theorem hh_setO {t k : Nat} {c : Int32} (ht : t ≤ 64) (hk : k < 2147483648) : fm_Types_setOutcome (nI t) (nI k) c u = some ((), xs_A u 6 (34 * t + 17 + min k 16) c) := by
  unfold fm_Types_setOutcome
  have e : (34 : Int32) * nI t + (17 : Int32) + (if (16 : Int32) < nI k then (16 : Int32) else nI k) = nI (34 * t + 17 + min k 16) := by
    rw [hh_min hk, show (34 : Int32) = nI 34 from rfl, pk_mul, show (17 : Int32) = nI 17 from rfl, nI_add, nI_add]
  rw [e, if_neg (nI_in (N := 2210) (by omega) (by decide)), nI_clamp (by omega)]
  rfl
/-- a row of codes lies in an array, as far as 16 -/
def ya_row (f : Nat → Int32) (o : Nat) (l : List Nat) : Prop := ∀ j c, j < 16 → l[j]? = some c → f (o + j) = nI (yv_h c)
theorem ya_nil {f : Nat → Int32} {o : Nat} : ya_row f o [] := fun j c _ h => by simp at h
theorem ya_snoc {f : Nat → Int32} {o a : Nat} {l : List Nat} (h : ya_row f o l) : ya_row (upd f (o + min l.length 16) (nI (yv_h a))) o (l ++ [a]) := by
  intro j c hj hc
  by_cases hl : j < l.length
  · rw [List.getElem?_append_left hl] at hc
    rw [upd, if_neg (by omega)]
    exact h j c hj hc
  · rw [List.getElem?_append_right (by omega)] at hc
    have h0 : j - l.length = 0 := by
      by_cases z : j - l.length = 0
      · exact z
      · rw [List.getElem?_eq_none (by simp; omega)] at hc; cases hc
    rw [h0] at hc
    cases hc
    rw [upd, if_pos (by omega)]
theorem ya_far {f : Nat → Int32} {o i : Nat} {x : Int32} {l : List Nat} (h : ya_row f o l) (hi : i < o ∨ o + 16 ≤ i) : ya_row (upd f i x) o l := by
  intro j c hj hc
  rw [upd, if_neg (by omega)]
  exact h j c hj hc
/-- row t of the types' parts alone is written -/
def yk_out (t : Nat) (u v : xk_St) : Prop := ∀ i, i < 34 * t ∨ 34 * t + 34 ≤ i → v.2.2.1 6 i = u.2.2.1 6 i
theorem yk_A {t i : Nat} {x : Int32} (h : yk_out t u v) (hi : 34 * t ≤ i ∧ i < 34 * t + 34) : yk_out t u (xs_A v 6 i x) := by
  intro j hj
  rw [ys_Ag, upd, if_neg (by omega)]
  exact h j hj
def yi_fld (t : Nat) (u : xk_St) (l : List (Nat × Nat)) (v : xk_St) : Prop := yf_fr [17] [] [6] [] u v ∧ yk_out t u v ∧ ya_row (v.2.2.1 6) (34 * t) (l.map Prod.fst) ∧ ya_row (v.2.2.1 6) (34 * t + 17) (l.map Prod.snd)
theorem yv_small {c : Nat} (h : c < 20) : yv_h c = c := if_pos h
theorem hh_84 {t k c : Nat} {l : List (Nat × Nat)} {b2 : Int32} {K : Int32 → Int32 → Int32 → xk_St → Option ((Unit ⊕ Nat) × xk_St)} (ht : t ≤ 64) (hk : l.length = k) (hk2 : k ≤ 8192) (h : yh_st B lim q v)
    (h1 : yf_fr [17] [] [6] [] u v) (h2 : yk_out t u v) (h3 : ya_row (v.2.2.1 6) (34 * t) (l.map Prod.fst ++ [c])) (h4 : ya_row (v.2.2.1 6) (34 * t + 17) (l.map Prod.snd)) :
    yC q (jb_Reader_readFields_84 fu K (nI t) b2 (nI k) v) (yp_then (yp_flag B lim q) fun f r => .inl ((c, f), r)) fun a r o => ∃ v', o = K (nI t) b2 (nI (k + 1)) v' ∧ yh_st B lim r v' ∧ yi_fld t u (l ++ [a]) v' := by
  unfold jb_Reader_readFields_84
  refine yC_try (yC_of h (hh_flag h)) fun f r b w e1 e2 hw e3 => ?_
  obtain ⟨rfl, q', rfl⟩ := e3
  rw [hh_setO ht (by omega), nI_1]
  refine yC_ok (Nat.le_refl _) ⟨_, rfl, hw, ?_⟩
  have hf := (yp_fb e1).1
  refine ⟨yf_A (yf_I h1 (by decide)) (by decide), yk_A h2 (by omega), ?_, ?_⟩
  · rw [ys_Ag, List.map_append]
    exact ya_far h3 (by omega)
  · rw [ys_Ag, List.map_append]
    have := ya_snoc (a := f) h4
    rw [List.length_map, hk, yv_small (by omega)] at this
    exact this
theorem hh_fields {t N : Nat} (hfu : 20 ≤ fu) (ht : t ≤ 64) (hn : lim - p + 2 ≤ fu) (h : yh_st B lim p u) : yC p (jb_Reader_readFields_12 fu fu (nI t) (nI (yn_c N)) (0 : Int32) u) (yp_rep (yp_fld B lim) N p) (yJ B lim fun l _ v => yi_fld t u l v) := by
  have := yC_rep (B := B) (lim := lim) (it := yp_fld B lim) yp_fld_eats (yi_fld t u) N (fun n k v => jb_Reader_readFields_12 fu n (nI t) (nI (yn_c N)) (nI k) v) (fun v => some (.inl (), v)) ?_ ?_ (lim - p + 1) [] p fu u (by omega) (by omega) (Nat.zero_le _) (Nat.zero_le _) h ⟨yf_refl, fun _ _ => rfl, ya_nil, ya_nil⟩
  · refine yC_mono this fun l q e1 e2 hj => ?_
    obtain ⟨v, e3, e4, e5⟩ := hj
    exact ⟨(), v, e3, e4, by rw [List.nil_append] at e5; exact e5⟩
  · intro n k v hN hk
    show jb_Reader_readFields_12 fu (n + 1) (nI t) (nI (yn_c N)) (nI k) v = _
    unfold jb_Reader_readFields_12
    simp only [xs_let]
    rw [if_pos ((yn_cl (by omega)).mpr hN)]
  · intro n l p v hl hl2 hv hI
    obtain ⟨i1, i2, i3, i4⟩ := hI
    show yC p (jb_Reader_readFields_12 fu (n + 1) (nI t) (nI (yn_c N)) (nI l.length) v) _ _
    conv => arg 2; unfold jb_Reader_readFields_12
    unfold yp_fld yp_F
    simp only [xs_let]
    rw [if_neg (fun z => by have := (yn_cl (by omega)).mp z; omega), yp_then_then]
    refine yC_try (yC_of' hv (hh_peek hv)) fun a q b w e1 e2 hw e3 => ?_
    obtain ⟨rfl, q', rfl⟩ := e3
    obtain ⟨rfl, hq⟩ := yp_pk e1
    have e17 : (xs_I v 17 (nI q')).1 17 = nI q := hw.2.1
    simp only [yp_then_ite, yp_then_l]
    have h37 : ∀ c : Nat, (if b = 120 then (3 : Int32) else 4) = nI (yv_h c) → yC q (jb_Reader_readFields_37 fu (jb_Reader_readFields_12 fu n) (nI t) (nI (yn_c N)) (nI l.length) b (xs_I v 17 (nI q'))) (yp_then (yp_flag B lim (q + 1)) fun f r => .inl ((c, f), r)) fun a r o => ∃ v', o = jb_Reader_readFields_12 fu n (nI t) (nI (yn_c N)) (nI (l.length + 1)) v' ∧ yh_st B lim r v' ∧ yi_fld t u (l ++ [a]) v' := by
      intro c hc
      have e5 : jb_Reader_readFields_37 fu (jb_Reader_readFields_12 fu n) (nI t) (nI (yn_c N)) (nI l.length) b (xs_I v 17 (nI q')) = jb_Reader_readFields_84 fu (jb_Reader_readFields_12 fu n) (nI t) (nI (yn_c N)) (nI l.length) (xs_A (xs_I (xs_I v 17 (nI q')) 17 (nI (q + 1))) 6 (34 * t + min l.length 16) (nI (yv_h c))) := by
        unfold jb_Reader_readFields_37 jb_Reader_readFields_65
        simp only [xs_let]
        rw [e17, nI_1, hh_setM ht (by omega), hh_setM ht (by omega), ← hc]
        by_cases hb : b = 120
        · rw [if_pos hb, if_pos hb]; rfl
        · rw [if_neg hb, if_neg hb]; rfl
      rw [e5]
      have hst : yh_st B lim (q + 1) (xs_A (xs_I (xs_I v 17 (nI q')) 17 (nI (q + 1))) 6 (34 * t + min l.length 16) (nI (yv_h c))) := yh_mv (q := q + 1) hw (by omega)
      have := hh_84 (fu := fu) (c := c) (b2 := nI (yn_c N)) (K := jb_Reader_readFields_12 fu n) ht rfl hl2 hst (yf_A (yf_I (yf_I i1 (by decide)) (by decide)) (by decide)) (yk_A i2 (by omega)) (by rw [ys_Ag]; have := ya_snoc (a := c) i3; rw [List.length_map] at this; exact this) (by rw [ys_Ag]; exact ya_far i4 (by omega))
      rcases this with ⟨a, r, f1, f2, f3⟩ | f
      · exact Or.inl ⟨a, r, f1, by omega, f3⟩
      · exact Or.inr f
    refine yC_ite (fun hb => ?_) fun hb => yC_ite (fun hb => ?_) fun hb2 => ?_
    · exact h37 3 (by rw [if_pos hb]; rfl)
    · exact h37 4 (by rw [if_neg (by rw [hb]; decide)]; rfl)
    · refine yC_try (yC_of hw (hh_V hfu hw)) fun c r b w e4 e5 hw e6 => ?_
      obtain ⟨rfl, q'', rfl⟩ := e6
      rw [hh_setM ht (by omega), ys_seq]
      exact hh_84 (fu := fu) (c := c) (K := jb_Reader_readFields_12 fu n) ht rfl hl2 hw (yf_A (yf_I (yf_I i1 (by decide)) (by decide)) (by decide)) (yk_A i2 (by omega)) (by rw [ys_Ag]; have := ya_snoc (a := c) i3; rw [List.length_map] at this; exact this) (by rw [ys_Ag]; exact ya_far i4 (by omega))
end
