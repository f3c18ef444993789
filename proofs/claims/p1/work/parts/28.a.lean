/-- how many bits are set, as the library counts them: three steps over numbers -/
def yc_5 : Nat := 6148914691236517205
def yc_3 : Nat := 3689348814741910323
def yc_F : Nat := 1085102592571150095
def yc_1 (n : Nat) : Nat := n - ((n / 2) &&& yc_5)
def yc_2 (n : Nat) : Nat := (n &&& yc_3) + ((n / 4) &&& yc_3)
def yc_4 (n : Nat) : Nat := (n + n / 16) &&& yc_F
def yc_T (n : Nat) : Nat := yc_4 (yc_2 (yc_1 n))
theorem yc_and {x y m k : Nat} (hx : x < 256) (hm : m < 256) : (x + 256 * y) &&& (m + 256 * k) = (x &&& m) + 256 * (y &&& k) := by
  have h8 : (256 : Nat) = 2 ^ 8 := rfl
  have hxm : x &&& m < 256 := Nat.lt_of_le_of_lt Nat.and_le_left hx
  apply Nat.eq_of_testBit_eq
  intro i
  rw [Nat.testBit_and, Nat.add_comm x, Nat.add_comm m, Nat.add_comm (x &&& m), h8, Nat.testBit_two_pow_mul_add _ (by omega), Nat.testBit_two_pow_mul_add _ (by omega), Nat.testBit_two_pow_mul_add _ (by omega)]
  split
  · rw [Nat.testBit_and]
  · rw [Nat.testBit_and]
theorem yc_lo {b m k : Nat} (hb : b < 2 ^ 56) (h : m % 2 ^ 56 = k) : b &&& k = b &&& m := by
  subst h
  apply Nat.eq_of_testBit_eq
  intro i
  rw [Nat.testBit_and, Nat.testBit_and, Nat.testBit_mod_two_pow]
  by_cases hi : i < 56
  · simp [hi]
  · have : b.testBit i = false := Nat.testBit_lt_two_pow (Nat.lt_of_lt_of_le hb (Nat.pow_le_pow_right (by decide) (by omega)))
    simp [this]
theorem yc_d1 : ∀ x, x < 128 → ∀ c, c < 2 → (x + 128 * c) &&& 85 = x &&& yc_5 := by decide +kernel
theorem yc_d2 : ∀ x, x < 64 → ∀ c, c < 4 → (x + 64 * c) &&& 51 = x &&& yc_3 := by decide +kernel
theorem yc_d2' : ∀ x, x < 256 → x &&& 51 = x &&& yc_3 := by decide +kernel
theorem yc_d4 : ∀ x, x < 69 → ∀ c, c < 5 → (x + x / 16 + 16 * c) &&& 15 = (x + x / 16) &&& yc_F := by decide +kernel
theorem yc_b : ∀ a, a < 256 → yc_1 a < 256 ∧ yc_2 (yc_1 a) < 69 ∧ yc_2 (yc_1 a) % 16 < 5 := by decide +kernel
theorem yc_1s {a b : Nat} (ha : a < 256) (hb : b < 2 ^ 56) : yc_1 (a + 256 * b) = yc_1 a + 256 * yc_1 b := by
  unfold yc_1
  have e1 : (a + 256 * b) / 2 = (a / 2 + 128 * (b % 2)) + 256 * (b / 2) := by omega
  have e2 : yc_5 = 85 + 256 * 24019198012642645 := rfl
  have e3 : (a + 256 * b) / 2 &&& yc_5 = ((a / 2) &&& yc_5) + 256 * ((b / 2) &&& yc_5) := by
    rw [e1]
    conv => lhs; rw [e2]
    rw [yc_and (by omega) (by decide), yc_d1 _ (by omega) _ (by omega), yc_lo (m := yc_5) (by omega) (by decide)]
  rw [e3]
  have h1 : a / 2 &&& yc_5 ≤ a / 2 := Nat.and_le_left
  have h2 : b / 2 &&& yc_5 ≤ b / 2 := Nat.and_le_left
  omega
theorem yc_2s {x y : Nat} (hx : x < 256) (hy : y < 2 ^ 56) : yc_2 (x + 256 * y) = yc_2 x + 256 * yc_2 y := by
  unfold yc_2
  have e1 : (x + 256 * y) / 4 = (x / 4 + 64 * (y % 4)) + 256 * (y / 4) := by omega
  have e2 : yc_3 = 51 + 256 * 14411518807585587 := rfl
  have e3 : (x + 256 * y) &&& yc_3 = (x &&& yc_3) + 256 * (y &&& yc_3) := by
    conv => lhs; rw [e2]
    rw [yc_and hx (by decide), yc_d2' _ hx, yc_lo (m := yc_3) hy (by decide)]
  have e4 : (x + 256 * y) / 4 &&& yc_3 = ((x / 4) &&& yc_3) + 256 * ((y / 4) &&& yc_3) := by
    rw [e1]
    conv => lhs; rw [e2]
    rw [yc_and (by omega) (by decide), yc_d2 _ (by omega) _ (by omega), yc_lo (m := yc_3) (by omega) (by decide)]
  rw [e3, e4]
  omega
theorem yc_le {b : Nat} (hb : b < 2 ^ 56) : yc_1 b < 2 ^ 56 ∧ yc_2 (yc_1 b) < 2 ^ 55 := by
  have h1 : yc_1 b < 2 ^ 56 := by unfold yc_1; omega
  refine ⟨h1, ?_⟩
  unfold yc_2
  have a1 : yc_1 b &&& 14411518807585587 = yc_1 b &&& yc_3 := yc_lo h1 (by decide)
  have a2 : yc_1 b / 4 &&& 14411518807585587 = yc_1 b / 4 &&& yc_3 := yc_lo (by omega) (by decide)
  rw [← a1, ← a2]
  have b1 : yc_1 b &&& 14411518807585587 ≤ 14411518807585587 := Nat.and_le_right
  have b2 : yc_1 b / 4 &&& 14411518807585587 ≤ 14411518807585587 := Nat.and_le_right
  omega
theorem yc_Ts {a b : Nat} (ha : a < 256) (hb : b < 2 ^ 56) : yc_T (a + 256 * b) = yc_T a + 256 * yc_T b := by
  obtain ⟨g1, g2, g3⟩ := yc_b a ha
  obtain ⟨k1, k2⟩ := yc_le hb
  have hc : yc_2 (yc_1 b) % 16 < 5 := by
    have e : b = b % 256 + 256 * (b / 256) := by omega
    obtain ⟨c1, c2, c3⟩ := yc_b (b % 256) (by omega)
    have k3 := (yc_le (b := b / 256) (by omega)).1
    rw [e, yc_1s (by omega) (by omega), yc_2s c1 k3]
    omega
  unfold yc_T
  rw [yc_1s ha hb, yc_2s g1 k1]
  generalize yc_2 (yc_1 a) = x at *
  generalize yc_2 (yc_1 b) = y at *
  unfold yc_4
  have e1 : x + 256 * y + (x + 256 * y) / 16 = (x + x / 16 + 16 * (y % 16)) + 256 * (y + y / 16) := by omega
  have e2 : yc_F = 15 + 256 * 4238682002231055 := rfl
  rw [e1]
  conv => lhs; rw [e2]
  rw [yc_and (by omega) (by decide), yc_d4 _ g2 _ hc, yc_lo (m := yc_F) (by omega) (by decide)]
/-- the bits below k, one by one -/
def yc_P (n : Nat) : Nat → Nat
  | 0 => 0
  | k + 1 => yc_P n k + n / 2 ^ k % 2
theorem yc_P8 : ∀ a, a < 256 → yc_T a = yc_P a 8 := by decide +kernel
theorem yc_Pl {n : Nat} : ∀ k, yc_P n k ≤ k := by
  intro k
  induction k with
  | zero => exact Nat.le_refl _
  | succ k ih => unfold yc_P; omega
theorem yc_Pa {a b : Nat} (ha : a < 256) : ∀ k, yc_P (a + 256 * b) (8 + k) = yc_P a 8 + yc_P b k := by
  have h0 : ∀ k, k ≤ 8 → yc_P (a + 256 * b) k = yc_P a k := by
    intro k
    induction k with
    | zero => intro _; rfl
    | succ k ih =>
      intro hk
      unfold yc_P
      rw [ih (by omega)]
      congr 1
      have : (256 : Nat) = 2 ^ k * (2 * 2 ^ (7 - k)) := by
        rw [← Nat.pow_succ', ← Nat.pow_add, show k + (7 - k).succ = 8 by omega]
      rw [this, Nat.mul_assoc, Nat.add_mul_div_left _ _ (Nat.two_pow_pos k), Nat.mul_assoc, Nat.add_mul_mod_self_left]
  intro k
  induction k with
  | zero => exact h0 8 (Nat.le_refl _)
  | succ k ih =>
    show yc_P (a + 256 * b) (8 + k) + (a + 256 * b) / 2 ^ (8 + k) % 2 = yc_P a 8 + (yc_P b k + b / 2 ^ k % 2)
    rw [ih, Nat.pow_add, ← Nat.div_div_eq_div_mul, show (a + 256 * b) / 2 ^ 8 = b by omega]
    omega
theorem yc_f {c0 c1 c2 c3 c4 c5 c6 c7 t : Nat} (h0 : c0 ≤ 8) (h1 : c1 ≤ 8) (h2 : c2 ≤ 8) (h3 : c3 ≤ 8) (h4 : c4 ≤ 8) (h5 : c5 ≤ 8) (h6 : c6 ≤ 8) (h7 : c7 ≤ 8) (ht : t = c0 + 256 * (c1 + 256 * (c2 + 256 * (c3 + 256 * (c4 + 256 * (c5 + 256 * (c6 + 256 * c7))))))) :
    (t + t / 256 + (t + t / 256) / 65536 + (t + t / 256 + (t + t / 256) / 65536) / 4294967296) % 128 = c0 + c1 + c2 + c3 + c4 + c5 + c6 + c7 := by
  have e1 : t / 256 = c1 + 256 * (c2 + 256 * (c3 + 256 * (c4 + 256 * (c5 + 256 * (c6 + 256 * c7))))) := by omega
  have e2 : (t + t / 256) = (c0 + c1) + 256 * (c1 + c2) + 65536 * ((c2 + c3) + 256 * (c3 + c4) + 65536 * ((c4 + c5) + 256 * (c5 + c6) + 65536 * ((c6 + c7) + 256 * c7))) := by omega
  generalize t + t / 256 = s at *
  have e3 : s / 65536 = (c2 + c3) + 256 * (c3 + c4) + 65536 * ((c4 + c5) + 256 * (c5 + c6) + 65536 * ((c6 + c7) + 256 * c7)) := by omega
  have e4 : s + s / 65536 = (c0 + c1 + c2 + c3) + 256 * (c1 + c2 + c3 + c4) + 65536 * ((c2 + c3 + c4 + c5) + 256 * (c3 + c4 + c5 + c6)) + 4294967296 * ((c4 + c5 + c6 + c7) + 256 * (c5 + c6 + c7) + 65536 * ((c6 + c7) + 256 * c7)) := by omega
  generalize s + s / 65536 = r at *
  have e5 : r / 4294967296 = (c4 + c5 + c6 + c7) + 256 * (c5 + c6 + c7) + 65536 * ((c6 + c7) + 256 * c7) := by omega
  omega
/-- a number in bytes -/
theorem yc_by {n : Nat} (h : n < 2 ^ 64) : ∃ d0 d1 d2 d3 d4 d5 d6 d7 : Nat, d0 < 256 ∧ d1 < 256 ∧ d2 < 256 ∧ d3 < 256 ∧ d4 < 256 ∧ d5 < 256 ∧ d6 < 256 ∧ d7 < 256 ∧ n = d0 + 256 * (d1 + 256 * (d2 + 256 * (d3 + 256 * (d4 + 256 * (d5 + 256 * (d6 + 256 * d7)))))) :=
  ⟨n % 256, n / 256 % 256, n / 256 / 256 % 256, n / 256 / 256 / 256 % 256, n / 256 / 256 / 256 / 256 % 256, n / 256 / 256 / 256 / 256 / 256 % 256, n / 256 / 256 / 256 / 256 / 256 / 256 % 256, n / 256 / 256 / 256 / 256 / 256 / 256 / 256, by omega, by omega, by omega, by omega, by omega, by omega, by omega, by omega, by omega⟩
theorem yc_all {n t : Nat} (h : n < 2 ^ 64) (ht : t = yc_T n) : (t + t / 256 + (t + t / 256) / 65536 + (t + t / 256 + (t + t / 256) / 65536) / 4294967296) % 128 = yc_P n 64 ∧ t < 2 ^ 60 := by
  obtain ⟨d0, d1, d2, d3, d4, d5, d6, d7, h0, h1, h2, h3, h4, h5, h6, h7, rfl⟩ := yc_by h
  rw [yc_Ts h0 (by omega), yc_Ts h1 (by omega), yc_Ts h2 (by omega), yc_Ts h3 (by omega), yc_Ts h4 (by omega), yc_Ts h5 (by omega), yc_Ts h6 (by omega), yc_P8 _ h0, yc_P8 _ h1, yc_P8 _ h2, yc_P8 _ h3, yc_P8 _ h4, yc_P8 _ h5, yc_P8 _ h6, yc_P8 _ h7] at ht
  have p0 := yc_Pl (n := d0) 8
  have p1 := yc_Pl (n := d1) 8
  have p2 := yc_Pl (n := d2) 8
  have p3 := yc_Pl (n := d3) 8
  have p4 := yc_Pl (n := d4) 8
  have p5 := yc_Pl (n := d5) 8
  have p6 := yc_Pl (n := d6) 8
  have p7 := yc_Pl (n := d7) 8
  refine ⟨?_, by omega⟩
  rw [yc_f p0 p1 p2 p3 p4 p5 p6 p7 ht, show 64 = 8 + 56 from rfl, yc_Pa h0, show 56 = 8 + 48 from rfl, yc_Pa h1, show 48 = 8 + 40 from rfl, yc_Pa h2, show 40 = 8 + 32 from rfl, yc_Pa h3, show 32 = 8 + 24 from rfl, yc_Pa h4, show 24 = 8 + 16 from rfl, yc_Pa h5, show 16 = 8 + 8 from rfl, yc_Pa h6]
  omega
/-- Long.bitCount -/
theorem hh_bc {n : Nat} {u : xk_St} (h : n < 2 ^ 64) : fm_Long_bitCount__h (lN n) u = some (nI (yc_P n 64), u) := by
  have c1 : (6148914691236517205 : Int64) = lN yc_5 := rfl
  have c2 : (3689348814741910323 : Int64) = lN yc_3 := rfl
  have c3 : (1085102592571150095 : Int64) = lN yc_F := rfl
  have b5 : yc_5 < 2 ^ 64 := by decide
  have b3 : yc_3 < 2 ^ 64 := by decide
  have bF : yc_F < 2 ^ 64 := by decide
  have l1 : n / 2 &&& yc_5 ≤ n / 2 := Nat.and_le_left
  have s1 : yc_1 n < 2 ^ 64 := by unfold yc_1; omega
  have l2 : yc_1 n &&& yc_3 ≤ yc_3 := Nat.and_le_right
  have l3 : yc_1 n / 4 &&& yc_3 ≤ yc_3 := Nat.and_le_right
  have v3 : yc_3 = 3689348814741910323 := rfl
  have s2 : yc_2 (yc_1 n) ≤ 7378697629483820646 := by unfold yc_2; omega
  obtain ⟨e, b⟩ := yc_all h rfl
  unfold fm_Long_bitCount__h
  simp only [xs_let]
  rw [show (1 : Int32) = nI 1 from rfl, show (2 : Int32) = nI 2 from rfl, show (4 : Int32) = nI 4 from rfl, show (8 : Int32) = nI 8 from rfl, show (16 : Int32) = nI 16 from rfl, show (32 : Int32) = nI 32 from rfl, c1, c2, c3]
  rw [wb_shr h (by decide), wb_and (by omega) b5, lN_sub (by omega)]
  show some (_, u) = _
  have q1 : lN (n - (n / 2 ^ 1 &&& yc_5)) = lN (yc_1 n) := rfl
  rw [q1, wb_shr s1 (by decide), wb_and s1 b3, wb_and (by omega) b3, lN_add]
  have q2 : lN ((yc_1 n &&& yc_3) + (yc_1 n / 2 ^ 2 &&& yc_3)) = lN (yc_2 (yc_1 n)) := rfl
  rw [q2, wb_shr (by omega) (by decide), lN_add, wb_and (by omega) bF]
  have q3 : lN ((yc_2 (yc_1 n) + yc_2 (yc_1 n) / 2 ^ 4) &&& yc_F) = lN (yc_T n) := rfl
  rw [q3]
  generalize yc_T n = t at *
  rw [wb_shr (by omega) (by decide), lN_add]
  rw [show (2 : Nat) ^ 8 = 256 from rfl, wb_shr (by omega) (by decide), lN_add, show (2 : Nat) ^ 16 = 65536 from rfl, wb_shr (by omega) (by decide), lN_add, show (2 : Nat) ^ 32 = 4294967296 from rfl, lN_i]
  rw [pk_and (nI _) (m := 127) 7 rfl]
  congr 2
  have hb : (nI (t + t / 256 + (t + t / 256) / 65536 + (t + t / 256 + (t + t / 256) / 65536) / 4294967296)).toBitVec.toNat = (t + t / 256 + (t + t / 256) / 65536 + (t + t / 256 + (t + t / 256) / 65536) / 4294967296) % 2 ^ 32 := by
    show (BitVec.ofNat 32 _).toNat = _
    rw [BitVec.toNat_ofNat]
  rw [hb]
  congr 1
  omega
