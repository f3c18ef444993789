theorem q1_n8 {x : Int32} (h1 : ¬ x < 1) (h2 : x ≤ 8) : ∃ N : Nat, 1 ≤ N ∧ N ≤ 8 ∧ x = nI N := by
  have e1 : ¬ x.toInt < 1 := by
    have := h1
    rw [Int32.lt_iff_toInt_lt] at this
    exact this
  obtain ⟨j, hj, e⟩ := nI_of2 (M := 8) (n := 8) (by decide) (fun h => by rw [Int32.lt_iff_toInt_lt] at h; exact e1 (by have h9 : (0 : Int32).toInt = 0 := by decide
                                                                                                                        omega)) h2
  refine ⟨j, ?_, hj, e⟩
  rcases Nat.eq_zero_or_pos j with h | h
  · subst h; subst e; exact absurd (by decide) h1
  · exact h
/-- the class's feed, so many bytes -/
theorem q1_hf (fu : Nat) (b2 : Int64) : ∀ (d n k : Nat) (u : xk_St), k + d ≤ 8 → d < n → u.1 0 = 0 → ∃ u', jb_House_feed_42 fu n (nI (k + d)) b2 (nI k) u = some (.inl (nI (k + d)), u') := by
  intro d
  induction d with
  | zero =>
    intro n k u h1 h2 h3
    obtain ⟨n, rfl⟩ : ∃ q, n = q + 1 := ⟨n - 1, by omega⟩
    unfold jb_House_feed_42
    simp only [xs_let]
    rw [if_pos (Int32.le_refl _)]
    exact ⟨_, by simp [xs_I, va_up, h3]; rfl⟩
  | succ d ih =>
    intro n k u h1 h2 h3
    obtain ⟨n, rfl⟩ : ∃ q, n = q + 1 := ⟨n - 1, by omega⟩
    unfold jb_House_feed_42
    simp only [xs_let]
    rw [if_neg (by rw [nI_leI (by omega) (by omega)]; omega), h3, Int32.zero_add, if_neg (nI_in (N := 8192) (by omega) (by omega)), nI_1, show k + (d + 1) = k + 1 + d by omega]
    exact ih n (k + 1) _ (by omega) (by omega) h3
theorem q1_mf (fu : Nat) (b2 : Int64) : ∀ (d n k : Nat) (u : xk_St), k + d ≤ 8 → d < n → u.1 1 = 0 → ∃ u', jb_Model_feed_55 fu n (nI (k + d)) b2 (nI k) u = some (nI (k + d), u') ∧ u'.1 0 = u.1 0 := by
  intro d
  induction d with
  | zero =>
    intro n k u h1 h2 h3
    obtain ⟨n, rfl⟩ : ∃ q, n = q + 1 := ⟨n - 1, by omega⟩
    unfold jb_Model_feed_55
    simp only [xs_let]
    rw [if_pos (Int32.le_refl _)]
    exact ⟨_, by simp [xs_I, va_up, h3]; rfl, by simp [xs_I, va_up]⟩
  | succ d ih =>
    intro n k u h1 h2 h3
    obtain ⟨n, rfl⟩ : ∃ q, n = q + 1 := ⟨n - 1, by omega⟩
    unfold jb_Model_feed_55
    simp only [xs_let]
    rw [if_neg (by rw [nI_leI (by omega) (by omega)]; omega), h3, Int32.zero_add, if_neg (nI_in (N := 8192) (by omega) (by omega)), nI_1, show k + (d + 1) = k + 1 + d by omega]
    exact ih n (k + 1) _ (by omega) (by omega) h3
