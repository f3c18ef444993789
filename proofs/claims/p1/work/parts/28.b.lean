theorem lN_int {m : Nat} (h : m < 2 ^ 64) : (lN m).toInt = if m < 2 ^ 63 then (m : Int) else (m : Int) - 18446744073709551616 := by
  have e : ((2 ^ 64 : Nat) : Int) = 18446744073709551616 := rfl
  rw [yz_lN]
  by_cases hc : m < 2 ^ 63
  · rw [if_pos hc]
    exact Int.bmod_eq_of_le_mul_two (by rw [e]; omega) (by rw [e]; omega)
  · rw [if_neg hc]
    have h1 : (m : Int) = ((m : Int) - 18446744073709551616) + ((2 ^ 64 : Nat) : Int) * 1 := by rw [e]; omega
    have h2 : (m : Int).bmod (2 ^ 64) = ((m : Int) - 18446744073709551616).bmod (2 ^ 64) := by
      conv => lhs; rw [h1]
      exact Int.add_mul_bmod_self_left _ _ _
    rw [h2]
    exact Int.bmod_eq_of_le_mul_two (by rw [e]; omega) (by rw [e]; omega)
/-- a bit, by a shift that keeps the sign -/
theorem yz_bit {n k : Nat} (hn : n < 2 ^ 64) (hk : k < 64) : (lN n >>> ((nI k).toInt64 &&& 63)) &&& 1 = lN (n / 2 ^ k % 2) := by
  have e := yz_sar (lN n) hk
  obtain ⟨m, hm, em⟩ := wb_of (lN n >>> ((nI k).toInt64 &&& 63))
  rw [em] at e ⊢
  rw [wb_a1 hm]
  congr 1
  rw [lN_int hm, lN_int hn] at e
  have hP0 : 0 < 2 ^ k := Nat.two_pow_pos k
  have hQ : (2 : Nat) ^ 64 = 2 ^ k * (2 * 2 ^ (63 - k)) := by
    rw [← Nat.pow_succ', ← Nat.pow_add]; congr 1; omega
  have hI : ((n : Int) - 18446744073709551616) / ((2 ^ k : Nat) : Int) = ((n / 2 ^ k : Nat) : Int) - 2 * ((2 ^ (63 - k) : Nat) : Int) := by
    have h1 : (n : Int) - 18446744073709551616 = (n : Int) + ((2 ^ k : Nat) : Int) * (-(2 * ((2 ^ (63 - k) : Nat) : Int))) := by
      have h3 : ((2 ^ 64 : Nat) : Int) = ((2 ^ k : Nat) : Int) * (2 * ((2 ^ (63 - k) : Nat) : Int)) := by
        rw [hQ]; rw [Int.natCast_mul, Int.natCast_mul]; rfl
      have h4 : ((2 ^ 64 : Nat) : Int) = 18446744073709551616 := rfl
      rw [Int.mul_neg, ← h3, h4]
      omega
    rw [h1, Int.add_mul_ediv_left _ _ (by omega), Int.natCast_ediv]
    omega
  have hN : (n : Int) / ((2 ^ k : Nat) : Int) = ((n / 2 ^ k : Nat) : Int) := by rw [Int.natCast_ediv]
  generalize n / 2 ^ k = a at *
  generalize ((2 ^ (63 - k) : Nat) : Int) = Q at *
  generalize ((2 ^ k : Nat) : Int) = P at *
  split at e <;> split at e
  · rw [hN] at e; omega
  · rw [hI] at e; omega
  · rw [hN] at e; omega
  · rw [hI] at e; omega
section
variable {u : xk_St} {fu : Nat}
/-- the reference counts the bits that are set -/
theorem mm_c6 {n W : Nat} (hn : n < 2 ^ 64) (hW : W ≤ 64) (hfu : 70 ≤ fu) : ∀ (d k f : Nat), k + d = W → d < f → jb_Model_counted_6 fu f 2 (lN n) (nI W) (nI (yc_P n k)) (nI k) u = some (lN (yc_P n W), u) := by
  intro d
  induction d with
  | zero =>
    intro k f h1 h2
    obtain ⟨f, rfl⟩ : ∃ m, f = m + 1 := ⟨f - 1, by omega⟩
    obtain rfl : k = W := by omega
    obtain ⟨g, hg⟩ : ∃ g, fu = g + 1 := ⟨fu - 1, by omega⟩
    unfold jb_Model_counted_6
    simp only [xs_let]
    rw [if_pos (nI_le (Nat.le_refl _) (by omega))]
    have e35 : ∀ g, jb_Model_counted_35 fu (g + 1) 2 (lN n) (nI k) (nI (yc_P n k)) u = jb_Model_counted_66 fu fu 2 (lN n) (nI k) (nI (yc_P n k)) u := fun g => by
      unfold jb_Model_counted_35
      simp only [xs_let]
      rw [if_neg (by decide)]
    have e66 : ∀ g, jb_Model_counted_66 fu (g + 1) 2 (lN n) (nI k) (nI (yc_P n k)) u = some ((nI (yc_P n k)).toInt64, u) := fun g => by
      unfold jb_Model_counted_66
      simp only [xs_let]
      rw [if_neg (by decide)]
    have h35 := e35 g
    have h66 := e66 g
    rw [← hg] at h35 h66
    rw [h35, h66, nI_l (by have := yc_Pl (n := n) k; omega)]
  | succ d ih =>
    intro k f h1 h2
    obtain ⟨f, rfl⟩ : ∃ m, f = m + 1 := ⟨f - 1, by omega⟩
    unfold jb_Model_counted_6
    simp only [xs_let]
    rw [if_neg (nI_ge (by omega) (by omega)), if_pos rfl, yz_bit hn (by omega), lN_i, nI_add, nI_1]
    exact ih (k + 1) f (by omega) (by omega)
theorem mm_cnt2 {n W : Nat} (hn : n < 2 ^ 64) (hW : W ≤ 64) (hfu : 70 ≤ fu) : fm_Model_counted fu 2 (lN n) (nI W) u = some (lN (yc_P n W), u) := mm_c6 hn hW hfu W 0 fu (by omega) (by omega)
/-- and those ahead of the first that is set -/
def yc_L (n W : Nat) : Nat → Nat → Nat
  | 0, k => k
  | d + 1, k => if n / 2 ^ (W - 1 - k) % 2 = 0 then yc_L n W d (k + 1) else k
def yc_R (n : Nat) : Nat → Nat → Nat
  | 0, k => k
  | d + 1, k => if n / 2 ^ k % 2 = 0 then yc_R n d (k + 1) else k
theorem mm_c6s {n W : Nat} {h : Int32} (hh : ¬ h = 2) (hW : 0 < W ∧ W ≤ 64) (hfu : 70 ≤ fu) : fm_Model_counted fu h (lN n) (nI W) u = jb_Model_counted_35 fu fu h (lN n) (nI W) 0 u := by
  obtain ⟨g, hg⟩ : ∃ g, fu = g + 1 := ⟨fu - 1, by omega⟩
  unfold fm_Model_counted
  have : ∀ g, jb_Model_counted_6 fu (g + 1) h (lN n) (nI W) 0 0 u = jb_Model_counted_35 fu fu h (lN n) (nI W) 0 u := fun g => by
    unfold jb_Model_counted_6
    simp only [xs_let]
    rw [if_neg (show ¬ nI W ≤ (0 : Int32) from nI_ge (a := 0) (by omega) (by omega)), if_neg hh]
  have := this g
  rw [← hg] at this
  exact this
theorem yl_b0 {x : Nat} (h : x < 2) : lN x = 0 ↔ x = 0 := by
  rw [show (0 : Int64) = lN 0 from rfl, lN_eq (by omega) (by decide)]
theorem mm_c35 {n W : Nat} (hn : n < 2 ^ 64) (hW : W ≤ 64) (hfu : 70 ≤ fu) : ∀ (d k f : Nat), k + d = W → d < f → jb_Model_counted_35 fu f 0 (lN n) (nI W) (nI k) u = some (lN (yc_L n W d k), u) := by
  obtain ⟨g, hg⟩ : ∃ g, fu = g + 1 := ⟨fu - 1, by omega⟩
  have h66 : ∀ k, k ≤ 64 → jb_Model_counted_66 fu fu 0 (lN n) (nI W) (nI k) u = some (lN k, u) := fun k hk => by
    have : ∀ g, jb_Model_counted_66 fu (g + 1) 0 (lN n) (nI W) (nI k) u = some (lN k, u) := fun g => by
      unfold jb_Model_counted_66
      simp only [xs_let]
      rw [if_neg (by decide), nI_l (by omega)]
    have := this g
    rw [← hg] at this
    exact this
  intro d
  induction d with
  | zero =>
    intro k f h1 h2
    obtain ⟨f, rfl⟩ : ∃ m, f = m + 1 := ⟨f - 1, by omega⟩
    unfold jb_Model_counted_35
    simp only [xs_let]
    rw [if_pos rfl, if_pos (nI_le (by omega) (by omega))]
    exact h66 k (by omega)
  | succ d ih =>
    intro k f h1 h2
    obtain ⟨f, rfl⟩ : ∃ m, f = m + 1 := ⟨f - 1, by omega⟩
    unfold jb_Model_counted_35 yc_L
    simp only [xs_let]
    rw [if_pos rfl, if_neg (nI_ge (by omega) (by omega)), show (1 : Int32) = nI 1 from rfl, pk_sub (by omega), pk_sub (by omega), yz_bit hn (by omega), nI_add]
    by_cases hb : n / 2 ^ (W - 1 - k) % 2 = 0
    · rw [if_pos hb, if_pos ((yl_b0 (by omega)).mpr hb)]
      exact ih (k + 1) f (by omega) (by omega)
    · rw [if_neg hb, if_neg (fun z => hb ((yl_b0 (by omega)).mp z))]
      exact h66 k (by omega)
theorem mm_cnt0 {n W : Nat} (hn : n < 2 ^ 64) (hW : 0 < W ∧ W ≤ 64) (hfu : 70 ≤ fu) : fm_Model_counted fu 0 (lN n) (nI W) u = some (lN (yc_L n W W 0), u) := by
  rw [mm_c6s (by decide) hW hfu]
  exact mm_c35 hn hW.2 hfu W 0 fu (by omega) (by omega)
theorem mm_c66 {n W : Nat} (hn : n < 2 ^ 64) (hW : W ≤ 64) : ∀ (d k f : Nat), k + d = W → d < f → jb_Model_counted_66 fu f 1 (lN n) (nI W) (nI k) u = some (lN (yc_R n d k), u) := by
  intro d
  induction d with
  | zero =>
    intro k f h1 h2
    obtain ⟨f, rfl⟩ : ∃ m, f = m + 1 := ⟨f - 1, by omega⟩
    unfold jb_Model_counted_66
    simp only [xs_let]
    rw [if_pos rfl, if_pos (nI_le (by omega) (by omega)), nI_l (by omega)]
    rfl
  | succ d ih =>
    intro k f h1 h2
    obtain ⟨f, rfl⟩ : ∃ m, f = m + 1 := ⟨f - 1, by omega⟩
    unfold jb_Model_counted_66 yc_R
    simp only [xs_let]
    rw [if_pos rfl, if_neg (nI_ge (by omega) (by omega)), yz_bit hn (by omega), nI_1]
    by_cases hb : n / 2 ^ k % 2 = 0
    · rw [if_pos hb, if_pos ((yl_b0 (by omega)).mpr hb)]
      exact ih (k + 1) f (by omega) (by omega)
    · rw [if_neg hb, if_neg (fun z => hb ((yl_b0 (by omega)).mp z)), nI_l (by omega)]
theorem mm_cnt1 {n W : Nat} (hn : n < 2 ^ 64) (hW : 0 < W ∧ W ≤ 64) (hfu : 70 ≤ fu) : fm_Model_counted fu 1 (lN n) (nI W) u = some (lN (yc_R n W 0), u) := by
  rw [mm_c6s (by decide) hW hfu]
  obtain ⟨g, hg⟩ : ∃ g, fu = g + 1 := ⟨fu - 1, by omega⟩
  have : ∀ g, jb_Model_counted_35 fu (g + 1) 1 (lN n) (nI W) 0 u = jb_Model_counted_66 fu fu 1 (lN n) (nI W) 0 u := fun g => by
    unfold jb_Model_counted_35
    simp only [xs_let]
    rw [if_neg (by decide)]
  have := this g
  rw [← hg] at this
  rw [this]
  exact mm_c66 hn hW.2 W 0 fu (by omega) (by omega)
end
