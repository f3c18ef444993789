section
theorem pc_bit (n i : Nat) : n / 2 ^ i % 2 = if n.testBit i then 1 else 0 := by
  rw [Nat.testBit_eq_decide_div_mod_eq]
  by_cases h : n / 2 ^ i % 2 = 1
  · simp [h]
  · have : n / 2 ^ i % 2 = 0 := by omega
    simp [this]
theorem pc_lo {n r : Nat} : ∀ w, (∀ i, i < w → (n.testBit i = true ↔ i < r)) → pcN n w = min r w := by
  intro w
  induction w with
  | zero => intro _; simp [pcN]
  | succ w ih =>
    intro h
    have h1 := ih (fun i hi => h i (by omega))
    show pcN n w + n / 2 ^ w % 2 = _
    rw [h1, pc_bit]
    have h2 := h w (by omega)
    by_cases c : w < r
    · rw [if_pos (h2.mpr c)]; omega
    · rw [if_neg (fun t => c (h2.mp t))]; omega
theorem pc_hi {n r v : Nat} : ∀ w, w ≤ v → (∀ i, i < w → (n.testBit i = true ↔ v ≤ i + r)) → pcN n w = w - (v - r) := by
  intro w
  induction w with
  | zero => intro _ _; simp [pcN]
  | succ w ih =>
    intro hv h
    have h1 := ih (by omega) (fun i hi => h i (by omega))
    show pcN n w + n / 2 ^ w % 2 = _
    rw [h1, pc_bit]
    have h2 := h w (by omega)
    by_cases c : v ≤ w + r
    · rw [if_pos (h2.mpr c)]; omega
    · rw [if_neg (fun t => c (h2.mp t))]; omega
/-- the bits of n - 1 that n has not -/
theorem ct_bits {n w r : Nat} (hn : n < 2 ^ w) (hr : r ≤ w) (h0 : ∀ j, j < r → n.testBit j = false) (h1 : r < w → n.testBit r = true) : ∀ i, i < w → ((((2 ^ w - 1 + n) % 2 ^ w).testBit i = true ∧ n.testBit i = false) ↔ i < r) := by
  intro i hi
  by_cases z : n = 0
  · subst z
    have : r = w := by
      rcases Nat.lt_or_ge r w with t | t
      · have := h1 t
        rw [Nat.zero_testBit] at this; cases this
      · omega
    have hp : 0 < 2 ^ w := Nat.pow_pos (by decide)
    rw [Nat.add_zero, Nat.mod_eq_of_lt (by omega), Nat.testBit_two_pow_sub_one, this]
    simp [hi]
  · have hp : 0 < 2 ^ w := Nat.pow_pos (by decide)
    have e : (2 ^ w - 1 + n) % 2 ^ w = n - 1 := by
      have : 2 ^ w - 1 + n = (n - 1) + 2 ^ w := by omega
      rw [this, Nat.add_mod_right, Nat.mod_eq_of_lt (by omega)]
    rw [e]
    have hm : n % 2 ^ r = 0 := by
      apply Nat.eq_of_testBit_eq
      intro j
      rw [Nat.testBit_mod_two_pow, Nat.zero_testBit]
      by_cases c : j < r
      · simp [h0 j c]
      · simp [c]
    have hrw : r < w := by
      rcases Nat.lt_or_ge r w with t | t
      · exact t
      · have : r = w := by omega
        subst this
        rw [Nat.mod_eq_of_lt hn] at hm
        omega
    have hb := h1 hrw
    rw [Nat.testBit_eq_decide_div_mod_eq, decide_eq_true_iff] at hb
    have hdm := Nat.div_add_mod n (2 ^ r)
    rw [hm] at hdm
    have hq : n = 2 ^ r * (2 * (n / 2 ^ r / 2) + 1) := by
      have : n / 2 ^ r = 2 * (n / 2 ^ r / 2) + 1 := by omega
      rw [← this]; omega
    have hpr : 0 < 2 ^ r := Nat.pow_pos (by decide)
    generalize n / 2 ^ r / 2 = m at hq
    have hq1 : n - 1 = 2 ^ r * (2 * m) + (2 ^ r - 1) := by
      rw [Nat.mul_add, Nat.mul_one] at hq
      omega
    rcases Nat.lt_trichotomy i r with t | t | t
    · refine iff_of_true ⟨?_, h0 i t⟩ t
      rw [hq1, Nat.testBit_two_pow_mul_add _ (by omega), if_pos t, Nat.testBit_two_pow_sub_one]
      simp [t]
    · subst t
      refine iff_of_false (fun y => ?_) (by omega)
      rw [h1 hrw] at y
      cases y.2
    · refine iff_of_false (fun y => ?_) (by omega)
      have b1 : (n - 1).testBit i = (2 * m).testBit (i - r) := by
        rw [hq1, Nat.testBit_two_pow_mul_add _ (by omega), if_neg (by omega)]
      have b2 : n.testBit i = (2 * m + 1).testBit (i - r) := by
        rw [hq, Nat.testBit_two_pow_mul]
        simp [show r ≤ i by omega]
      have b3 : (2 * m).testBit (i - r) = (2 * m + 1).testBit (i - r) := by
        obtain ⟨d, hd⟩ : ∃ d, i - r = d + 1 := ⟨i - r - 1, by omega⟩
        rw [hd, Nat.testBit_succ, Nat.testBit_succ]
        have : 2 * m / 2 = (2 * m + 1) / 2 := by omega
        rw [this]
      rw [b1, b2, b3] at y
      rw [y.1] at y
      cases y.2
/-- bits run down -/
def smr (n s b : Nat) : Prop := ∀ i, b.testBit i = true ↔ ∃ d, d < s ∧ n.testBit (i + d) = true
theorem smr_1 (n : Nat) : smr n 1 n := fun i => ⟨fun h => ⟨0, by decide, h⟩, fun ⟨d, h1, h2⟩ => by
  have : d = 0 := by omega
  subst this; exact h2⟩
theorem smr_s {n s b : Nat} (h : smr n s b) : smr n (s * 2) (b ||| b / 2 ^ s) := fun i => by
  rw [Nat.testBit_or, Bool.or_eq_true, Nat.testBit_div_two_pow, h i, h (i + s)]
  constructor
  · rintro (⟨d, h1, h2⟩ | ⟨d, h1, h2⟩)
    · exact ⟨d, by omega, h2⟩
    · exact ⟨s + d, by omega, by rw [← Nat.add_assoc]; exact h2⟩
  · rintro ⟨d, h1, h2⟩
    by_cases c : d < s
    · exact Or.inl ⟨d, c, h2⟩
    · exact Or.inr ⟨d - s, by omega, by rw [Nat.add_assoc, show s + (d - s) = d by omega]; exact h2⟩
/-- what is above the highest bit -/
theorem cl_bits {n b r : Nat} (hn : n < 2 ^ 64) (hs : smr n 64 b) (hr : r ≤ 64) (h0 : ∀ j, j < r → n.testBit (63 - j) = false) (h1 : r < 64 → n.testBit (63 - r) = true) : ∀ i, i < 64 → (b.testBit i = false ↔ 64 ≤ i + r) := by
  intro i hi
  have hb := hs i
  constructor
  · intro hf
    refine Nat.le_of_not_lt fun c => ?_
    have : b.testBit i = true := hb.mpr ⟨63 - r - i, by omega, by rw [show i + (63 - r - i) = 63 - r by omega]; exact h1 (by omega)⟩
    rw [hf] at this; cases this
  · intro c
    cases hh : b.testBit i with
    | false => rfl
    | true =>
      obtain ⟨d, d1, d2⟩ := hb.mp hh
      by_cases k : i + d < 64
      · have := h0 (63 - (i + d)) (by omega)
        rw [show 63 - (63 - (i + d)) = i + d by omega, d2] at this
        cases this
      · have : n.testBit (i + d) = false := Nat.testBit_lt_two_pow (Nat.lt_of_lt_of_le hn (Nat.pow_le_pow_right (by decide) (by omega)))
        rw [d2] at this; cases this
end
