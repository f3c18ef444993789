/-- the bits of m are those of n within reach w -/
def yc_A (m n w : Nat) : Prop := ∀ j, m.testBit j = true ↔ ∃ t, t < w ∧ n.testBit (j + t) = true
theorem yc_A1 (n : Nat) : yc_A n n 1 := by
  intro j
  constructor
  · intro h; exact ⟨0, by decide, h⟩
  · rintro ⟨t, ht, h⟩
    obtain rfl : t = 0 := by omega
    exact h
theorem yc_A2 {m n w : Nat} (h : yc_A m n (2 ^ w)) : yc_A (m ||| m / 2 ^ 2 ^ w) n (2 ^ (w + 1)) := by
  intro j
  rw [Nat.testBit_or, Nat.testBit_div_two_pow, Bool.or_eq_true, h j, h (j + 2 ^ w)]
  have hp : 2 ^ (w + 1) = 2 * 2 ^ w := Nat.pow_succ'
  constructor
  · rintro (⟨t, ht, g⟩ | ⟨t, ht, g⟩)
    · exact ⟨t, by omega, g⟩
    · exact ⟨2 ^ w + t, by omega, by rw [← Nat.add_assoc]; exact g⟩
  · rintro ⟨t, ht, g⟩
    by_cases hc : t < 2 ^ w
    · exact Or.inl ⟨t, hc, g⟩
    · exact Or.inr ⟨t - 2 ^ w, by omega, by rw [show j + 2 ^ w + (t - 2 ^ w) = j + t by omega]; exact g⟩
theorem yc_hi {n j : Nat} (hn : n < 2 ^ 64) : (∃ t, t < 2 ^ 6 ∧ n.testBit (j + t) = true) ↔ ¬ n / 2 ^ j = 0 := by
  constructor
  · rintro ⟨t, -, h⟩ h0
    have := Nat.testBit_div_two_pow (n := j) n t
    rw [h0, Nat.zero_testBit, Nat.add_comm t j, h] at this
    cases this
  · intro h
    obtain ⟨i, hi⟩ := Nat.exists_testBit_of_ne_zero h
    rw [Nat.testBit_div_two_pow, Nat.add_comm] at hi
    refine ⟨i, ?_, hi⟩
    by_cases hc : j + i < 64
    · have : (2 : Nat) ^ 6 = 64 := rfl
      omega
    · rw [Nat.testBit_lt_two_pow (Nat.lt_of_lt_of_le hn (Nat.pow_le_pow_right (by decide) (by omega)))] at hi
      cases hi
/-- how many places j below K have nothing set at j or above -/
def yc_Z (n : Nat) : Nat → Nat
  | 0 => 0
  | k + 1 => yc_Z n k + if n / 2 ^ k = 0 then 1 else 0
theorem yc_Zl {n l : Nat} (h1 : n / 2 ^ l = 0) (h2 : ∀ j, j < l → ¬ n / 2 ^ j = 0) : ∀ K, yc_Z n K = K - l := by
  intro K
  induction K with
  | zero => simp [yc_Z]
  | succ K ih =>
    unfold yc_Z
    rw [ih]
    by_cases hc : K < l
    · rw [if_neg (h2 K hc)]; omega
    · have : n / 2 ^ K = 0 := by
        have hl : n < 2 ^ l := Nat.lt_of_div_eq_zero (Nat.two_pow_pos l) h1
        exact Nat.div_eq_of_lt (Nat.lt_of_lt_of_le hl (Nat.pow_le_pow_right (by decide) (by omega)))
      rw [if_pos this]; omega
theorem yc_len (n : Nat) {W : Nat} (hn : n < 2 ^ W) : ∃ l, l ≤ W ∧ n / 2 ^ l = 0 ∧ ∀ j, j < l → ¬ n / 2 ^ j = 0 := by
  obtain ⟨l, h1, h2⟩ := pk_least (fun j => n / 2 ^ j = 0) ⟨W, Nat.div_eq_of_lt hn⟩
  refine ⟨l, ?_, h1, h2⟩
  by_cases hc : l ≤ W
  · exact hc
  · exact absurd (Nat.div_eq_of_lt hn) (h2 W (by omega))
theorem yc_Ll {n l W : Nat} (h1 : n / 2 ^ l = 0) (h2 : ∀ j, j < l → ¬ n / 2 ^ j = 0) (hl : l ≤ W) : ∀ d k, k + d = W → k + l ≤ W → yc_L n W d k = W - l := by
  intro d
  induction d with
  | zero => intro k e1 e2; unfold yc_L; omega
  | succ d ih =>
    intro k e1 e2
    unfold yc_L
    have hlt : n < 2 ^ l := Nat.lt_of_div_eq_zero (Nat.two_pow_pos l) h1
    by_cases hc : k + l = W
    · have hne := h2 (W - 1 - k)
      by_cases hl0 : l = 0
      · omega
      · have h3 := hne (by omega)
        have h4 : n / 2 ^ (W - 1 - k) < 2 := by
          refine Nat.div_lt_of_lt_mul ?_
          rw [show l = W - 1 - k + 1 by omega, Nat.pow_succ, Nat.mul_comm] at hlt
          rw [Nat.mul_comm]
          rw [Nat.mul_comm] at hlt
          exact hlt
        rw [if_neg (by omega)]
        omega
    · have h3 : n / 2 ^ (W - 1 - k) = 0 := Nat.div_eq_of_lt (Nat.lt_of_lt_of_le hlt (Nat.pow_le_pow_right (by decide) (by omega)))
      rw [if_pos (by rw [h3])]
      exact ih (k + 1) (by omega) (by omega)
/-- the bits of the complement, counted -/
theorem yc_co {m n : Nat} (hm : m < 2 ^ 64) (h : ∀ j, j < 64 → (m.testBit j = true ↔ ¬ n / 2 ^ j = 0)) : ∀ k, k ≤ 64 → yc_P (2 ^ 64 - (m + 1)) k = yc_Z n k := by
  intro k
  induction k with
  | zero => intro _; rfl
  | succ k ih =>
    intro hk
    unfold yc_P yc_Z
    rw [ih (by omega)]
    congr 1
    have hb := Nat.testBit_two_pow_sub_succ hm k
    rw [Nat.testBit_eq_decide_div_mod_eq] at hb
    have h2 := h k (by omega)
    by_cases hc : n / 2 ^ k = 0
    · rw [if_pos hc]
      have : m.testBit k = false := by
        cases hx : m.testBit k with
        | false => rfl
        | true => exact absurd hc (h2.mp hx)
      rw [this] at hb
      simp [show k < 64 by omega] at hb
      exact hb
    · rw [if_neg hc]
      rw [h2.mpr hc] at hb
      simp at hb
      omega
theorem yl_not {n : Nat} (h : n < 2 ^ 64) : lN n ^^^ (-1 : Int64) = lN (2 ^ 64 - (n + 1)) := by
  apply wb_inj
  rw [Int64.toBitVec_xor]
  apply BitVec.eq_of_getLsbD_eq
  intro i hi
  rw [BitVec.getLsbD_xor, wb_tb, wb_tb, BitVec.getLsbD_ofNat, BitVec.getLsbD_ofNat, Nat.testBit_two_pow_sub_succ h]
  have : ((-1 : Int64).toBitVec).getLsbD i = true := by
    show (BitVec.allOnes 64).getLsbD i = true
    rw [BitVec.getLsbD_allOnes]
    simp [hi]
  rw [this]
  simp [hi]
section
variable {u : xk_St} {fu : Nat}
theorem hh_lead {n : Nat} (hn : n < 2 ^ 64) (hfu : 70 ≤ fu) : fm_Numbers_leading fu (lN n) u = some (nI (yc_L n 64 64 0), u) := by
  obtain ⟨g, rfl⟩ : ∃ g, fu = g + 10 := ⟨fu - 10, by omega⟩
  unfold fm_Numbers_leading
  have step : ∀ (f m w : Nat), w < 6 → m < 2 ^ 64 → jb_Numbers_leading_5 (g + 10) (f + 1) (lN m) (nI (2 ^ w)) u = jb_Numbers_leading_5 (g + 10) f (lN (m ||| m / 2 ^ 2 ^ w)) (nI (2 ^ (w + 1))) u := by
    intro f m w hw hm
    have h32 : 2 ^ w ≤ 2 ^ 5 := Nat.pow_le_pow_right (by decide) (by omega)
    have h5 : (2 : Nat) ^ 5 = 32 := rfl
    conv => lhs; unfold jb_Numbers_leading_5
    simp only [xs_let]
    rw [if_neg (show ¬ (32 : Int32) < nI (2 ^ w) from fun z => by have := (nI_ltI (a := 32) (b := 2 ^ w) (by decide) (by omega)).mp z; omega)]
    have hdv : m / 2 ^ 2 ^ w < 2 ^ 64 := Nat.lt_of_le_of_lt (Nat.div_le_self _ _) hm
    rw [wb_shr hm (by omega), wb_or hm hdv, show (2 : Int32) = nI 2 from rfl, pk_mul, ← Nat.pow_succ]
  have b1 : ∀ m w, m < 2 ^ 64 → m ||| m / 2 ^ 2 ^ w < 2 ^ 64 := fun m w hm => Nat.or_lt_two_pow hm (Nat.lt_of_le_of_lt (Nat.div_le_self _ _) hm)
  have A0 := yc_A1 n
  rw [show (1 : Int32) = nI (2 ^ 0) from rfl, step (g + 9) n 0 (by decide) hn]
  have A1 := yc_A2 (w := 0) A0
  have hn1 := b1 n 0 hn
  generalize n ||| n / 2 ^ 2 ^ 0 = m1 at *
  rw [step (g + 8) m1 1 (by decide) hn1]
  have A2 := yc_A2 (w := 1) A1
  have hn2 := b1 m1 1 hn1
  generalize m1 ||| m1 / 2 ^ 2 ^ 1 = m2 at *
  rw [step (g + 7) m2 2 (by decide) hn2]
  have A3 := yc_A2 (w := 2) A2
  have hn3 := b1 m2 2 hn2
  generalize m2 ||| m2 / 2 ^ 2 ^ 2 = m3 at *
  rw [step (g + 6) m3 3 (by decide) hn3]
  have A4 := yc_A2 (w := 3) A3
  have hn4 := b1 m3 3 hn3
  generalize m3 ||| m3 / 2 ^ 2 ^ 3 = m4 at *
  rw [step (g + 5) m4 4 (by decide) hn4]
  have A5 := yc_A2 (w := 4) A4
  have hn5 := b1 m4 4 hn4
  generalize m4 ||| m4 / 2 ^ 2 ^ 4 = m5 at *
  rw [step (g + 4) m5 5 (by decide) hn5]
  have A6 := yc_A2 (w := 5) A5
  have hn6 := b1 m5 5 hn5
  generalize m5 ||| m5 / 2 ^ 2 ^ 5 = m6 at *
  unfold jb_Numbers_leading_5
  simp only [xs_let]
  rw [if_pos (show (32 : Int32) < nI (2 ^ (5 + 1)) by decide), yl_not hn6, hh_bc (by omega)]
  obtain ⟨l, hl, h1, h2⟩ := yc_len n hn
  rw [yc_co hn6 (fun j _ => (A6 j).trans (yc_hi hn)) 64 (Nat.le_refl _), yc_Zl h1 h2 64, yc_Ll h1 h2 hl 64 0 rfl (by omega)]
  rfl
end
