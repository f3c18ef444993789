section
variable {α β γ δ σ τ : Type} {u v w u0 : xk_St} {g : Nat → Nat} {T : List (Nat × List Nat × List Nat)} {n fu : Nat}
theorem mm_tg : ∀ x, x < 150 → 16 ≤ x → (nI x - 16) / 2 = nI ((x - 16) / 2) ∧ (nI x &&& 1 = nI (x % 2)) := by decide +kernel
theorem yfit_both {a b : Nat} (ha : 0 < a ∧ a < 150) (hb : 0 < b ∧ b < 150) : (yfit g a b ∧ yfit g b a) ↔ (a = b ∨ (16 ≤ a ∧ 16 ≤ b ∧ a % 2 = b % 2 ∧ 20 ≤ a ∧ 20 ≤ b ∧ g ((a - 20) / 2) = g ((b - 20) / 2))) := by
  unfold yfit
  constructor
  · rintro ⟨h1, h2⟩
    by_cases z : a = b
    · exact Or.inl z
    · refine Or.inr ?_
      have h1 : 16 ≤ a ∧ 16 ≤ b ∧ a % 2 ≤ b % 2 ∧ (a = 816 ∨ (a - 16) / 2 = (b - 16) / 2 ∨ (b - 16) / 2 = 0 ∨ (20 ≤ a ∧ 20 ≤ b ∧ g ((a - 20) / 2) = g ((b - 20) / 2))) := by rcases h1 with y | y | y; omega; exact absurd y z; exact y
      have h2 : 16 ≤ b ∧ 16 ≤ a ∧ b % 2 ≤ a % 2 ∧ (b = 816 ∨ (b - 16) / 2 = (a - 16) / 2 ∨ (a - 16) / 2 = 0 ∨ (20 ≤ b ∧ 20 ≤ a ∧ g ((b - 20) / 2) = g ((a - 20) / 2))) := by rcases h2 with y | y | y; omega; exact absurd y.symm z; exact y
      obtain ⟨c1, c2, c3, c4⟩ := h1
      obtain ⟨-, -, d3, d4⟩ := h2
      refine ⟨c1, c2, by omega, ?_⟩
      rcases c4 with y | y | y | y
      · omega
      · omega
      · rcases d4 with t | t | t | t
        · omega
        · omega
        · omega
        · omega
      · exact y
  · rintro (rfl | ⟨h1, h2, h3, h4, h5, h6⟩)
    · exact ⟨Or.inr (Or.inl rfl), Or.inr (Or.inl rfl)⟩
    · exact ⟨Or.inr (Or.inr ⟨h1, h2, by omega, Or.inr (Or.inr (Or.inr ⟨h4, h5, h6⟩))⟩), Or.inr (Or.inr ⟨h2, h1, by omega, Or.inr (Or.inr (Or.inr ⟨h5, h4, h6.symm⟩))⟩)⟩
end
