section
variable {α β γ δ σ τ : Type} {B : Nat → Int32} {u v w u' v' u0 v0 u1 v1 uh um uc um1 v8 : xk_St} {T : List (Nat × List Nat × List Nat)} {F : List Nat} {G : List (Nat × Nat × Nat × Int64)} {n fu p q k j d b g m i t sz ix tc mc D len : Nat} {H H' : rH} {z h : Nat → Nat} {S : Nat → Option (Nat × Nat)}
theorem mi_12 : ∀ (j i n : Nat) (v : xk_St), i + j = 2001 → j < n → ∃ v', jb_Model_noObjects_12 fu n (nI i) v = some ((), v') ∧ yf_fr [] [] [38] [] v v' ∧ (∀ x, i ≤ x → x < 2001 → v'.2.2.1 38 x = -1) ∧ ∀ x, x < i → v'.2.2.1 38 x = v.2.2.1 38 x := by
  intro j
  induction j with
  | zero =>
    intro i n v hij hn
    obtain ⟨n, rfl⟩ : ∃ f, n = f + 1 := ⟨n - 1, by omega⟩
    refine ⟨v, ?_, yf_refl, fun x h1 h2 => by omega, fun x _ => rfl⟩
    unfold jb_Model_noObjects_12
    simp only [xs_let]
    rw [if_pos (show (2001 : Int32) ≤ nI i from nI_le (a := 2001) (by omega) (by omega))]
  | succ j ih =>
    intro i n v hij hn
    obtain ⟨n, rfl⟩ : ∃ f, n = f + 1 := ⟨n - 1, by omega⟩
    obtain ⟨v', r1, r2, r3, r4⟩ := ih (i + 1) n (xs_A v 38 i (-1)) (by omega) (by omega)
    refine ⟨v', ?_, yf_trans (yf_A yf_refl (by decide)) r2, fun x h1 h2 => ?_, fun x hx => ?_⟩
    · rw [← r1]
      conv => lhs; unfold jb_Model_noObjects_12
      simp only [xs_let]
      rw [if_neg (show ¬ (2001 : Int32) ≤ nI i from fun t => by have := (nI_leI (a := 2001) (by omega) (by omega)).mp t; omega), ix2001 (by omega), show (nI i).toNatClampNeg = i from nI_clamp (by omega), nI_1]
    · by_cases q : x = i
      · rw [r4 x (by omega)]
        show upd (v.2.2.1 38) i (-1) x = -1
        rw [q, ya_t]
      · exact r3 x (by omega) h2
    · rw [r4 x (by omega)]
      show upd (v.2.2.1 38) i (-1) x = _
      rw [ya_j (by omega)]
theorem mi_21 : ∀ (j i n : Nat) (v : xk_St), i + j = 65536 → j < n → ∃ v', jb_Model_instance_21 fu n (nI i) v = jb_Model_instance_42 fu fu 0 v' ∧ yf_fr [] [] [27] [] v v' ∧ (∀ x, i ≤ x → x < 65536 → v'.2.2.1 27 x = 0) ∧ ∀ x, x < i → v'.2.2.1 27 x = v.2.2.1 27 x := by
  intro j
  induction j with
  | zero =>
    intro i n v hij hn
    obtain ⟨n, rfl⟩ : ∃ f, n = f + 1 := ⟨n - 1, by omega⟩
    refine ⟨v, ?_, yf_refl, fun x h1 h2 => by omega, fun x _ => rfl⟩
    unfold jb_Model_instance_21
    simp only [xs_let]
    rw [if_pos (show (65536 : Int32) ≤ nI i from nI_le (a := 65536) (by omega) (by omega))]
  | succ j ih =>
    intro i n v hij hn
    obtain ⟨n, rfl⟩ : ∃ f, n = f + 1 := ⟨n - 1, by omega⟩
    obtain ⟨v', r1, r2, r3, r4⟩ := ih (i + 1) n (xs_A v 27 i 0) (by omega) (by omega)
    refine ⟨v', ?_, yf_trans (yf_A yf_refl (by decide)) r2, fun x h1 h2 => ?_, fun x hx => ?_⟩
    · rw [← r1]
      conv => lhs; unfold jb_Model_instance_21
      simp only [xs_let]
      rw [if_neg (show ¬ (65536 : Int32) ≤ nI i from fun t => by have := (nI_leI (a := 65536) (by omega) (by omega)).mp t; omega), ix64k (by omega), show (nI i).toNatClampNeg = i from nI_clamp (by omega), nI_1, show vp_nar .byte 0 = 0 from rfl]
    · by_cases q : x = i
      · rw [r4 x (by omega)]
        show upd (v.2.2.1 27) i 0 x = 0
        rw [q, ya_t]
      · exact r3 x (by omega) h2
    · rw [r4 x (by omega)]
      show upd (v.2.2.1 27) i 0 x = _
      rw [ya_j (by omega)]
theorem ix64 {α : Type} {k : Nat} {o : Option (α × xk_St)} (hk : k < 64) : (if nI k < 0 ∨ 64 ≤ (nI k).toNatClampNeg then none else o) = o := if_neg (nI_in (N := 64) hk (by decide))
theorem ix65 {α : Type} {k : Nat} {o : Option (α × xk_St)} (hk : k < 65) : (if nI k < 0 ∨ 65 ≤ (nI k).toNatClampNeg then none else o) = o := if_neg (nI_in (N := 65) hk (by decide))
theorem mi_42 : ∀ (j i n : Nat) (v : xk_St), i + j = 64 → j < n → ∃ v', jb_Model_instance_42 fu n (nI i) v = (xs_seq (fm_Model_rowOf fu (9 : Int32) v') fun a5 u6 => jb_Model_instance_70 fu fu a5 (0 : Int32) u6) ∧ yf_fr [] [] [28] [] v v' ∧ (∀ x, i ≤ x → x < 64 → v'.2.2.1 28 x = -1) ∧ ∀ x, x < i → v'.2.2.1 28 x = v.2.2.1 28 x := by
  intro j
  induction j with
  | zero =>
    intro i n v hij hn
    obtain ⟨n, rfl⟩ : ∃ f, n = f + 1 := ⟨n - 1, by omega⟩
    refine ⟨v, ?_, yf_refl, fun x h1 h2 => by omega, fun x _ => rfl⟩
    unfold jb_Model_instance_42
    simp only [xs_let]
    rw [if_pos (show (64 : Int32) ≤ nI i from nI_le (a := 64) (by omega) (by omega))]
  | succ j ih =>
    intro i n v hij hn
    obtain ⟨n, rfl⟩ : ∃ f, n = f + 1 := ⟨n - 1, by omega⟩
    obtain ⟨v', r1, r2, r3, r4⟩ := ih (i + 1) n (xs_A v 28 i (-1)) (by omega) (by omega)
    refine ⟨v', ?_, yf_trans (yf_A yf_refl (by decide)) r2, fun x h1 h2 => ?_, fun x hx => ?_⟩
    · rw [← r1]
      conv => lhs; unfold jb_Model_instance_42
      simp only [xs_let]
      rw [if_neg (show ¬ (64 : Int32) ≤ nI i from fun t => by have := (nI_leI (a := 64) (by omega) (by omega)).mp t; omega), ix64 (by omega), show (nI i).toNatClampNeg = i from nI_clamp (by omega), nI_1]
    · by_cases q : x = i
      · rw [r4 x (by omega)]
        show upd (v.2.2.1 28) i (-1) x = -1
        rw [q, ya_t]
      · exact r3 x (by omega) h2
    · rw [r4 x (by omega)]
      show upd (v.2.2.1 28) i (-1) x = _
      rw [ya_j (by omega)]
theorem hi_5 : ∀ (j i n : Nat) (u : xk_St), i + j = 64 → j < n → ∃ u', jb_Arrays_fill_AII__h79_5 fu n (-1) (nI i) 64 u = some ((), u') ∧ yf_fr [] [] [47] [] u u' ∧ (∀ x, i ≤ x → x < 64 → u'.2.2.1 47 x = -1) ∧ ∀ x, x < i → u'.2.2.1 47 x = u.2.2.1 47 x := by
  intro j
  induction j with
  | zero =>
    intro i n u hij hn
    obtain ⟨n, rfl⟩ : ∃ f, n = f + 1 := ⟨n - 1, by omega⟩
    refine ⟨u, ?_, yf_refl, fun x h1 h2 => by omega, fun x _ => rfl⟩
    unfold jb_Arrays_fill_AII__h79_5
    simp only [xs_let]
    rw [if_pos (show (64 : Int32) ≤ nI i from nI_le (a := 64) (by omega) (by omega))]
  | succ j ih =>
    intro i n u hij hn
    obtain ⟨n, rfl⟩ : ∃ f, n = f + 1 := ⟨n - 1, by omega⟩
    obtain ⟨u', r1, r2, r3, r4⟩ := ih (i + 1) n (xs_A u 47 i (-1)) (by omega) (by omega)
    refine ⟨u', ?_, yf_trans (yf_A yf_refl (by decide)) r2, fun x h1 h2 => ?_, fun x hx => ?_⟩
    · rw [← r1]
      conv => lhs; unfold jb_Arrays_fill_AII__h79_5
      simp only [xs_let]
      rw [if_neg (show ¬ (64 : Int32) ≤ nI i from fun t => by have := (nI_leI (a := 64) (by omega) (by omega)).mp t; omega), ix64 (by omega), show (nI i).toNatClampNeg = i from nI_clamp (by omega), nI_1]
    · by_cases q : x = i
      · rw [r4 x (by omega)]
        show upd (u.2.2.1 47) i (-1) x = -1
        rw [q, ya_t]
      · exact r3 x (by omega) h2
    · rw [r4 x (by omega)]
      show upd (u.2.2.1 47) i (-1) x = _
      rw [ya_j (by omega)]
/-- what a global begins with -/
theorem gl_const (hX : yX B (yp_glo B) (S 6) G) (k : Nat) (a : Nat × Nat × Nat × Int64) (ha : G[k]? = some a) : (a.2.2.1 = 1 ∧ a.2.2.2.toInt32.toInt64 = a.2.2.2) ∨ a.2.2.1 = 2 ∨ (16 ≤ a.2.2.1 ∧ a.2.2.1 % 2 = 1) := by
  have key : ∀ {lim p q : Nat}, yp_glo B lim p = .inl (a, q) → (a.2.2.1 = 1 ∧ a.2.2.2.toInt32.toInt64 = a.2.2.2) ∨ a.2.2.1 = 2 ∨ (16 ≤ a.2.2.1 ∧ a.2.2.1 % 2 = 1) := by
    intro lim p q h
    obtain ⟨c, q1, -, h⟩ := yp_thenI h
    obtain ⟨f, q2, -, h⟩ := yp_thenI h
    obtain ⟨x, q3, hx, h⟩ := yp_thenI h
    cases h
    obtain ⟨b, q4, -, hx⟩ := yp_thenI hx
    by_cases c1 : b = 65
    · rw [if_pos c1] at hx
      obtain ⟨y, q5, hy, hx⟩ := yp_thenI hx
      obtain ⟨-, q6, -, hx⟩ := yp_thenI hx
      cases hx
      refine Or.inl ⟨rfl, ?_⟩
      have hs : ∀ (d k p : Nat) (v : Int64) (y : Int64) (q : Nat), k + d = 11 → yp_Sg B lim 32 d k p v = .inl (y, q) → y.toInt32.toInt64 = y := by
        intro d
        induction d with
        | zero => intro k p v y q _ h; cases h
        | succ d ih =>
          intro k p v y q hkd h
          unfold yp_Sg at h
          by_cases e1 : 32 ≤ 7 * k
          · rw [if_pos e1] at h; cases h
          · rw [if_neg e1] at h
            by_cases e2 : lim ≤ p
            · rw [if_pos e2] at h; cases h
            · rw [if_neg e2] at h
              by_cases e3 : (128 : Int32) ≤ yb_b B p
              · rw [if_pos e3] at h
                exact ih _ _ _ _ _ (by omega) h
              · rw [if_neg e3] at h
                unfold yp_Se at h
                rw [if_neg (by omega)] at h
                split at h
                · rename_i hc
                  cases h
                  exact s31 _ hc
                · cases h
      exact hs 11 0 _ _ _ _ (by decide) hy
    · rw [if_neg c1] at hx
      by_cases c2 : b = 66
      · rw [if_pos c2] at hx
        obtain ⟨y, q5, hy, hx⟩ := yp_thenI hx
        obtain ⟨-, q6, -, hx⟩ := yp_thenI hx
        cases hx
        exact Or.inr (Or.inl rfl)
      · rw [if_neg c2] at hx
        by_cases c3 : b = 208
        · rw [if_pos c3] at hx
          obtain ⟨t, q5, ht, hx⟩ := yp_thenI hx
          obtain ⟨-, q6, -, hx⟩ := yp_thenI hx
          cases hx
          refine Or.inr (Or.inr ⟨?_, ?_⟩)
          · show 16 ≤ 16 + 2 * t + 1
            omega
          · show (16 + 2 * t + 1) % 2 = 1
            omega
        · rw [if_neg c3] at hx; cases hx
  have rep : ∀ {lim : Nat} (n p : Nat) (l : List (Nat × Nat × Nat × Int64)) (e : Nat), yp_rep (yp_glo B lim) n p = .inl (l, e) → ∀ (k : Nat), l[k]? = some a → ∃ p q, yp_glo B lim p = .inl (a, q) := by
    intro lim n
    induction n with
    | zero => intro p l e h k hk; cases h; cases hk
    | succ n ih =>
      intro p l e h k hk
      obtain ⟨x, q1, h1, h⟩ := yp_thenI h
      obtain ⟨l', q2, h2, h⟩ := yp_thenI h
      cases h
      cases k with
      | zero => cases hk; exact ⟨p, q1, h1⟩
      | succ k => exact ih _ _ _ h2 k hk
  cases hs : S 6 with
  | none => rw [hs] at hX; have hX : G = [] := hX; subst hX; cases ha
  | some x =>
    rw [hs] at hX
    obtain ⟨-, -, h⟩ := hX
    obtain ⟨n, q1, -, h⟩ := yp_thenI h
    obtain ⟨p, q, hp⟩ := rep n q1 G _ h k ha
    exact key hp
end
