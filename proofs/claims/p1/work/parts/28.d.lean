/-- bit j of (a - 1) & ~a, as numbers below 2^W -/
theorem yc_tz {a W j : Nat} (ha : a < 2 ^ W) (hj : j < W) : (((if a = 0 then 2 ^ W - 1 else a - 1) &&& (2 ^ W - (a + 1))).testBit j = true) ↔ a % 2 ^ (j + 1) = 0 := by
  rw [Nat.testBit_and, Nat.testBit_two_pow_sub_succ ha]
  by_cases h0 : a = 0
  · subst h0
    rw [if_pos rfl, Nat.testBit_two_pow_sub_one]
    simp [hj]
  · rw [if_neg h0]
    simp only [hj, decide_true, Bool.true_and]
    rw [Nat.testBit_eq_decide_div_mod_eq, Nat.testBit_eq_decide_div_mod_eq]
    have hP : 0 < 2 ^ j := Nat.two_pow_pos j
    have hs : 2 ^ (j + 1) = 2 ^ j * 2 := Nat.pow_succ
    have e1 : a % 2 ^ (j + 1) = a % 2 ^ j + 2 ^ j * (a / 2 ^ j % 2) := by rw [hs, Nat.mod_mul]
    rw [e1]
    have e0 := Nat.div_add_mod a (2 ^ j)
    by_cases hr : a % 2 ^ j = 0
    · have hq : 0 < a / 2 ^ j := by
        rcases Nat.eq_zero_or_pos (a / 2 ^ j) with z | z
        · rw [z, hr] at e0; omega
        · exact z
      have e2 : (a - 1) / 2 ^ j = a / 2 ^ j - 1 := by
        obtain ⟨q, hq'⟩ : ∃ q, a / 2 ^ j = q + 1 := ⟨a / 2 ^ j - 1, by omega⟩
        rw [hq', Nat.add_sub_cancel]
        rw [hq', hr] at e0
        have : a - 1 = 2 ^ j * q + (2 ^ j - 1) := by rw [← e0, Nat.mul_succ]; omega
        rw [this, Nat.mul_add_div hP, Nat.div_eq_of_lt (by omega)]
        rfl
      rw [e2, hr]
      generalize a / 2 ^ j = q at *
      have hm : q % 2 = 0 ∨ q % 2 = 1 := by omega
      rcases hm with hm | hm
      · have : (q - 1) % 2 = 1 := by omega
        simp [hm, this]
      · have : (q - 1) % 2 = 0 := by omega
        simp [hm, this]
        omega
    · have e2 : (a - 1) / 2 ^ j = a / 2 ^ j := by
        have hlt := Nat.mod_lt a hP
        have : a - 1 = 2 ^ j * (a / 2 ^ j) + (a % 2 ^ j - 1) := by omega
        conv => lhs; rw [this]
        rw [Nat.mul_add_div hP, Nat.div_eq_of_lt (by omega)]
        rfl
      rw [e2]
      constructor
      · intro h
        simp at h
      · intro h
        omega
/-- the places below K up to which nothing is set -/
def yc_Y (n : Nat) : Nat → Nat
  | 0 => 0
  | k + 1 => yc_Y n k + if n % 2 ^ (k + 1) = 0 then 1 else 0
theorem yc_Py {m n : Nat} (W : Nat) (h : ∀ j, j < W → (m.testBit j = true ↔ n % 2 ^ (j + 1) = 0)) : ∀ k, k ≤ W → yc_P m k = yc_Y n k := by
  intro k
  induction k with
  | zero => intro _; rfl
  | succ k ih =>
    intro hk
    unfold yc_P yc_Y
    rw [ih (by omega)]
    congr 1
    have h2 := h k (by omega)
    rw [Nat.testBit_eq_decide_div_mod_eq, decide_eq_true_iff] at h2
    by_cases hc : n % 2 ^ (k + 1) = 0
    · rw [if_pos hc]; exact h2.mpr hc
    · rw [if_neg hc]
      have : ¬ m / 2 ^ k % 2 = 1 := fun z => hc (h2.mp z)
      omega
theorem yc_dv {n a b : Nat} (hab : a ≤ b) (h : n % 2 ^ b = 0) : n % 2 ^ a = 0 := by
  have h1 : 2 ^ b ∣ n := Nat.dvd_of_mod_eq_zero h
  exact Nat.mod_eq_zero_of_dvd (Nat.dvd_trans (Nat.pow_dvd_pow 2 hab) h1)
theorem yc_Yr {n : Nat} : ∀ d k, n % 2 ^ k = 0 → yc_Y n k = k → yc_Y n (k + d) = yc_R n d k := by
  intro d
  induction d with
  | zero => intro k _ h; exact h
  | succ d ih =>
    intro k h1 h2
    unfold yc_R
    have e1 : n % 2 ^ (k + 1) = n % 2 ^ k + 2 ^ k * (n / 2 ^ k % 2) := by rw [Nat.pow_succ, Nat.mod_mul]
    have hP : 0 < 2 ^ k := Nat.two_pow_pos k
    by_cases hc : n / 2 ^ k % 2 = 0
    · rw [if_pos hc]
      have h3 : n % 2 ^ (k + 1) = 0 := by rw [e1, h1, hc]; simp
      rw [show k + (d + 1) = k + 1 + d by omega]
      refine ih (k + 1) h3 ?_
      show yc_Y n k + _ = _
      rw [if_pos h3, h2]
    · rw [if_neg hc]
      have h3 : ¬ n % 2 ^ (k + 1) = 0 := by
        rw [e1, h1]
        have : n / 2 ^ k % 2 = 1 := by omega
        rw [this]; omega
      have : ∀ t, yc_Y n (k + t) = k := by
        intro t
        induction t with
        | zero => exact h2
        | succ t iht =>
          show yc_Y n (k + t) + _ = _
          rw [iht, if_neg (fun z => h3 (yc_dv (by omega) z))]
      exact this (d + 1)
theorem yc_trail {a W : Nat} (ha : a < 2 ^ W) : yc_P ((if a = 0 then 2 ^ W - 1 else a - 1) &&& (2 ^ W - (a + 1))) W = yc_R a W 0 := by
  rw [yc_Py W (fun j hj => yc_tz ha hj) W (Nat.le_refl _)]
  have := yc_Yr (n := a) W 0 (by simp [Nat.mod_one]) rfl
  rw [Nat.zero_add] at this
  exact this
/-- only the bits below W count -/
theorem yc_Pm {n W : Nat} : ∀ k, k ≤ W → yc_P (n % 2 ^ W) k = yc_P n k := by
  intro k
  induction k with
  | zero => intro _; rfl
  | succ k ih =>
    intro hk
    unfold yc_P
    rw [ih (by omega)]
    congr 1
    have := Nat.testBit_mod_two_pow n W k
    rw [Nat.testBit_eq_decide_div_mod_eq, Nat.testBit_eq_decide_div_mod_eq] at this
    simp [show k < W by omega] at this
    omega
theorem yc_bm {n W k : Nat} (hk : k < W) : n % 2 ^ W / 2 ^ k % 2 = n / 2 ^ k % 2 := by
  have := Nat.testBit_mod_two_pow n W k
  rw [Nat.testBit_eq_decide_div_mod_eq, Nat.testBit_eq_decide_div_mod_eq] at this
  simp [hk] at this
  omega
theorem yc_Lm {n W : Nat} : ∀ d k, k + d = W → yc_L (n % 2 ^ W) W d k = yc_L n W d k := by
  intro d
  induction d with
  | zero => intro k _; rfl
  | succ d ih =>
    intro k hk
    unfold yc_L
    rw [yc_bm (by omega), ih (k + 1) (by omega)]
theorem yc_Rm {n W : Nat} : ∀ d k, k + d = W → yc_R (n % 2 ^ W) d k = yc_R n d k := by
  intro d
  induction d with
  | zero => intro k _; rfl
  | succ d ih =>
    intro k hk
    unfold yc_R
    rw [yc_bm (by omega), ih (k + 1) (by omega)]
theorem yc_L32 {n : Nat} (hn : n < 2 ^ 32) : yc_L n 64 64 0 = 32 + yc_L n 32 32 0 := by
  obtain ⟨l, hl, h1, h2⟩ := yc_len n hn
  rw [yc_Ll h1 h2 (by omega) 64 0 rfl (by omega), yc_Ll h1 h2 hl 32 0 rfl (by omega)]
  omega
/-- ints -/
theorem yi_and {a b : Nat} (ha : a < 2 ^ 32) (hb : b < 2 ^ 32) : nI a &&& nI b = nI (a &&& b) := by
  apply Int32.toBitVec_inj.mp
  apply BitVec.eq_of_toNat_eq
  rw [Int32.toBitVec_and, BitVec.toNat_and, pk_tn ha, pk_tn hb, pk_tn (Nat.and_lt_two_pow _ hb)]
theorem yc_lo32 {b m k : Nat} (hb : b < 2 ^ 32) (h : m % 2 ^ 32 = k) : b &&& k = b &&& m := by
  subst h
  apply Nat.eq_of_testBit_eq
  intro i
  rw [Nat.testBit_and, Nat.testBit_and, Nat.testBit_mod_two_pow]
  by_cases hi : i < 32
  · simp [hi]
  · have : b.testBit i = false := Nat.testBit_lt_two_pow (Nat.lt_of_lt_of_le hb (Nat.pow_le_pow_right (by decide) (by omega)))
    simp [this]
theorem hh_ibc {n : Nat} {u : xk_St} (h : n < 2 ^ 32) : fm_Integer_bitCount__h (nI n) u = some (nI (yc_P n 32), u) := by
  have c1 : (1431655765 : Int32) = nI 1431655765 := rfl
  have c2 : (858993459 : Int32) = nI 858993459 := rfl
  have c3 : (252645135 : Int32) = nI 252645135 := rfl
  have m1 : ∀ b, b < 2 ^ 32 → b &&& 1431655765 = b &&& yc_5 := fun b hb => yc_lo32 hb (by decide)
  have m2 : ∀ b, b < 2 ^ 32 → b &&& 858993459 = b &&& yc_3 := fun b hb => yc_lo32 hb (by decide)
  have m3 : ∀ b, b < 2 ^ 32 → b &&& 252645135 = b &&& yc_F := fun b hb => yc_lo32 hb (by decide)
  have l1 : n / 2 &&& yc_5 ≤ n / 2 := Nat.and_le_left
  have s1 : yc_1 n < 2 ^ 32 := by unfold yc_1; omega
  have l2 : yc_1 n &&& 858993459 ≤ 858993459 := Nat.and_le_right
  have l3 : yc_1 n / 4 &&& 858993459 ≤ 858993459 := Nat.and_le_right
  have s2 : yc_2 (yc_1 n) ≤ 1717986918 := by
    unfold yc_2
    rw [← m2 _ s1, ← m2 _ (by omega)]
    omega
  have h64 : n < 2 ^ 64 := by omega
  obtain ⟨d0, d1, d2, d3, d4, d5, d6, d7, h0, h1, h2, h3, h4, h5, h6, h7, hd⟩ := yc_by h64
  have ht : yc_T n = yc_P d0 8 + 256 * (yc_P d1 8 + 256 * (yc_P d2 8 + 256 * yc_P d3 8)) := by
    have z4 : d4 = 0 := by omega
    have z5 : d5 = 0 := by omega
    have z6 : d6 = 0 := by omega
    have z7 : d7 = 0 := by omega
    subst z4 z5 z6 z7
    have : n = d0 + 256 * (d1 + 256 * (d2 + 256 * d3)) := by omega
    rw [this, yc_Ts h0 (by omega), yc_Ts h1 (by omega), yc_Ts h2 (by omega), yc_P8 _ h0, yc_P8 _ h1, yc_P8 _ h2, yc_P8 _ h3]
  have hP : yc_P n 32 = yc_P d0 8 + (yc_P d1 8 + (yc_P d2 8 + yc_P d3 8)) := by
    have : n = d0 + 256 * (d1 + 256 * (d2 + 256 * d3)) := by omega
    rw [this, show 32 = 8 + 24 from rfl, yc_Pa h0, show 24 = 8 + 16 from rfl, yc_Pa h1, show 16 = 8 + 8 from rfl, yc_Pa h2]
  have p0 := yc_Pl (n := d0) 8
  have p1 := yc_Pl (n := d1) 8
  have p2 := yc_Pl (n := d2) 8
  have p3 := yc_Pl (n := d3) 8
  unfold fm_Integer_bitCount__h
  simp only [xs_let]
  rw [c1, c2, c3]
  rw [pk_ushrN h 1 1 (by decide), yi_and (by omega) (by decide), show n / 2 ^ 1 = n / 2 from rfl, m1 _ (by omega), pk_sub (by omega)]
  have q1 : nI (n - (n / 2 &&& yc_5)) = nI (yc_1 n) := rfl
  rw [q1, pk_ushrN s1 2 2 (by decide), show yc_1 n / 2 ^ 2 = yc_1 n / 4 from rfl, yi_and s1 (by decide), yi_and (by omega) (by decide), m2 _ s1, m2 _ (by omega), nI_add]
  have q2 : nI ((yc_1 n &&& yc_3) + (yc_1 n / 4 &&& yc_3)) = nI (yc_2 (yc_1 n)) := rfl
  rw [q2, pk_ushrN (by omega) 4 4 (by decide), show yc_2 (yc_1 n) / 2 ^ 4 = yc_2 (yc_1 n) / 16 from rfl, nI_add, yi_and (by omega) (by decide), m3 _ (by omega)]
  have q3 : nI ((yc_2 (yc_1 n) + yc_2 (yc_1 n) / 16) &&& yc_F) = nI (yc_T n) := rfl
  rw [q3, ht, hP]
  generalize yc_P d0 8 = c0 at *
  generalize yc_P d1 8 = c1 at *
  generalize yc_P d2 8 = c2 at *
  generalize yc_P d3 8 = c3 at *
  obtain ⟨t, et⟩ : ∃ t, t = c0 + 256 * (c1 + 256 * (c2 + 256 * c3)) := ⟨_, rfl⟩
  rw [← et, pk_ushrN (by omega) 8 8 (by decide), nI_add, pk_ushrN (by omega) 16 16 (by decide), nI_add, pk_andN (by omega) 6 rfl]
  congr 3
  have e1 : t / 2 ^ 8 = c1 + 256 * (c2 + 256 * c3) := by omega
  rw [e1]
  have e2 : t + (c1 + 256 * (c2 + 256 * c3)) = (c0 + c1) + 256 * (c1 + c2) + 65536 * ((c2 + c3) + 256 * c3) := by omega
  rw [e2]
  have e3 : ((c0 + c1) + 256 * (c1 + c2) + 65536 * ((c2 + c3) + 256 * c3)) / 2 ^ 16 = (c2 + c3) + 256 * c3 := by omega
  rw [e3]
  omega
