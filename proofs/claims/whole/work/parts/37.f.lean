section
def pcN (n : Nat) : Nat → Nat
  | 0 => 0
  | w + 1 => pcN n w + n / 2 ^ w % 2
def rep (m : Nat) : Nat → Nat
  | 0 => 0
  | k + 1 => m + 256 * rep m k
theorem an_lo {a m M : Nat} (hm : m < 256) : (a &&& (m + 256 * M)) = ((a % 256) &&& m) + 256 * (a / 256 &&& M) := by
  have h1 : (a &&& (m + 256 * M)) % 2 ^ 8 = (a % 2 ^ 8) &&& ((m + 256 * M) % 2 ^ 8) := Nat.and_mod_two_pow
  have h2 : (a &&& (m + 256 * M)) / 2 ^ 8 = (a / 2 ^ 8) &&& ((m + 256 * M) / 2 ^ 8) := Nat.and_div_two_pow
  have e1 : (m + 256 * M) % 2 ^ 8 = m := by omega
  have e2 : (m + 256 * M) / 2 ^ 8 = M := by omega
  rw [e1] at h1
  rw [e2] at h2
  have := Nat.div_add_mod (a &&& (m + 256 * M)) (2 ^ 8)
  rw [h1, h2] at this
  have this : 256 * (a / 256 &&& M) + (a % 256 &&& m) = (a &&& (m + 256 * M)) := this
  omega
theorem an_le (a b : Nat) : a &&& b ≤ a := Nat.and_le_left
def g1 (x : Nat) : Nat := x - (x / 2 &&& 85)
def g2 (x : Nat) : Nat := (x &&& 51) + (x / 4 &&& 51)
def g3 (x : Nat) : Nat := (x + x / 16) &&& 15
def f1 (k n : Nat) : Nat := n - (n / 2 &&& rep 85 k)
def f2 (k n : Nat) : Nat := (n &&& rep 51 k) + (n / 4 &&& rep 51 k)
def f3 (k n : Nat) : Nat := (n + n / 16) &&& rep 15 k
theorem b_g1 : ∀ x, x < 256 → (x / 2 % 128 &&& 85) = (x / 2 &&& 85) ∧ g1 x < 256 ∧ (x / 4 &&& 51) = (x / 4 % 64 &&& 51) ∧ g2 x < 256 ∧ g2 x / 16 ≤ 6 ∧ g2 x % 16 ≤ 15 := by decide +kernel
theorem b_all : ∀ x, x < 256 → g3 (g2 (g1 x)) = pcN x 8 ∧ g2 (g1 x) % 16 ≤ 4 ∧ g2 (g1 x) / 16 ≤ 4 ∧ pcN x 8 ≤ 8 := by decide +kernel
theorem a_85 : ∀ z, z < 256 → (z &&& 85) = (z % 128 &&& 85) := by decide +kernel
theorem a_51 : ∀ z, z < 256 → (z &&& 51) = (z % 64 &&& 51) := by decide +kernel
theorem a_15 : ∀ z, z < 256 → (z &&& 15) = z % 16 := by decide +kernel
theorem f1_s {k x y : Nat} (hx : x < 256) : f1 (k + 1) (x + 256 * y) = g1 x + 256 * f1 k y := by
  unfold f1 g1
  have e : ((x + 256 * y) / 2 &&& rep 85 (k + 1)) = (x / 2 &&& 85) + 256 * (y / 2 &&& rep 85 k) := by
    show ((x + 256 * y) / 2 &&& (85 + 256 * rep 85 k)) = _
    rw [an_lo (by decide), a_85 _ (Nat.mod_lt _ (by decide))]
    have e1 : (x + 256 * y) / 2 % 256 % 128 = x / 2 := by omega
    have e2 : (x + 256 * y) / 2 / 256 = y / 2 := by omega
    rw [e1, e2]
  rw [e]
  have h1 := an_le (x / 2) 85
  have h2 := an_le (y / 2) (rep 85 k)
  omega
theorem f2_s {k x y : Nat} (hx : x < 256) : f2 (k + 1) (x + 256 * y) = g2 x + 256 * f2 k y := by
  unfold f2 g2
  have e : ((x + 256 * y) / 4 &&& rep 51 (k + 1)) = (x / 4 &&& 51) + 256 * (y / 4 &&& rep 51 k) := by
    show ((x + 256 * y) / 4 &&& (51 + 256 * rep 51 k)) = _
    rw [an_lo (by decide), a_51 _ (Nat.mod_lt _ (by decide))]
    have e1 : (x + 256 * y) / 4 % 256 % 64 = x / 4 := by omega
    have e2 : (x + 256 * y) / 4 / 256 = y / 4 := by omega
    rw [e1, e2]
  have e' : ((x + 256 * y) &&& rep 51 (k + 1)) = (x &&& 51) + 256 * (y &&& rep 51 k) := by
    show ((x + 256 * y) &&& (51 + 256 * rep 51 k)) = _
    rw [an_lo (by decide)]
    have e1 : (x + 256 * y) % 256 = x := by omega
    have e2 : (x + 256 * y) / 256 = y := by omega
    rw [e1, e2]
  rw [e, e']
  omega
theorem f3_s {k x y : Nat} (hx : x < 256) (h1 : x % 16 ≤ 4) (h2 : x / 16 ≤ 4) (h3 : y % 16 ≤ 4) : f3 (k + 1) (x + 256 * y) = g3 x + 256 * f3 k y := by
  unfold f3 g3
  show ((x + 256 * y) + (x + 256 * y) / 16 &&& (15 + 256 * rep 15 k)) = _
  rw [an_lo (by decide), a_15 _ (Nat.mod_lt _ (by decide)), a_15 (x + x / 16) (by omega)]
  have e1 : ((x + 256 * y) + (x + 256 * y) / 16) % 256 % 16 = (x + x / 16) % 16 := by omega
  have e2 : ((x + 256 * y) + (x + 256 * y) / 16) / 256 = y + y / 16 := by omega
  rw [e1, e2]
/-- each byte by itself -/
theorem f_all : ∀ (k n : Nat), n < 256 ^ k → (f2 k (f1 k n)) % 16 ≤ 4 ∧ f3 k (f2 k (f1 k n)) = match k with
    | 0 => 0
    | k + 1 => pcN (n % 256) 8 + 256 * f3 k (f2 k (f1 k (n / 256))) := by
  intro k
  induction k with
  | zero =>
    intro n hn
    have : n = 0 := by simpa using hn
    subst this
    decide
  | succ k ih =>
    intro n hn
    have hy : n / 256 < 256 ^ k := by
      rw [Nat.pow_succ] at hn
      exact Nat.div_lt_of_lt_mul (by rw [Nat.mul_comm]; exact hn)
    have hx : n % 256 < 256 := Nat.mod_lt _ (by decide)
    have en : n = n % 256 + 256 * (n / 256) := by omega
    obtain ⟨h1, h2, h3, h4⟩ := b_all (n % 256) hx
    have hg := (b_g1 (n % 256) hx).2.1
    have hg2 := (b_g1 (g1 (n % 256)) hg).2.2.2.1
    obtain ⟨i1, -⟩ := ih (n / 256) hy
    have e2 : f2 (k + 1) (f1 (k + 1) n) = g2 (g1 (n % 256)) + 256 * f2 k (f1 k (n / 256)) := by
      conv => lhs; rw [en]
      rw [f1_s hx, f2_s hg]
    rw [e2]
    refine ⟨by omega, ?_⟩
    rw [f3_s hg2 h2 h3 i1, h1]
theorem pc_s (n : Nat) : ∀ w, pcN n (8 + w) = pcN (n % 256) 8 + pcN (n / 256) w := by
  intro w
  induction w with
  | zero =>
    show pcN n 8 = pcN (n % 256) 8 + 0
    simp only [pcN]
    omega
  | succ w ih =>
    show pcN n (8 + w) + n / 2 ^ (8 + w) % 2 = pcN (n % 256) 8 + (pcN (n / 256) w + n / 256 / 2 ^ w % 2)
    rw [ih, Nat.pow_add, ← Nat.div_div_eq_div_mul]
    show _ + n / 256 / 2 ^ w % 2 = _
    omega

theorem sum8 {c0 c1 c2 c3 c4 c5 c6 c7 t1 t2 t3 t4 t5 t6 h : Nat} (h0 : c0 ≤ 8) (h1 : c1 ≤ 8) (h2 : c2 ≤ 8) (h3 : c3 ≤ 8) (h4 : c4 ≤ 8) (h5 : c5 ≤ 8) (h6 : c6 ≤ 8) (h7 : c7 ≤ 8) (e0 : h = c0 + 256 * t1) (e1 : t1 = c1 + 256 * t2) (e2 : t2 = c2 + 256 * t3) (e3 : t3 = c3 + 256 * t4) (e4 : t4 = c4 + 256 * t5) (e5 : t5 = c5 + 256 * t6) (e6 : t6 = c6 + 256 * c7) : (h + h / 256 + (h + h / 256) / 65536 + (h + h / 256 + (h + h / 256) / 65536) / 4294967296) % 128 = c0 + c1 + c2 + c3 + c4 + c5 + c6 + c7 := by
  have d1 : h / 256 = t1 := by omega
  rw [d1]
  have d2 : (h + t1) / 65536 = t2 + t3 := by
    have : h + t1 = ((c0 + c1) + 256 * (c1 + c2)) + 65536 * (t2 + t3) := by omega
    omega
  rw [d2]
  have d3 : (h + t1 + (t2 + t3)) / 4294967296 = t4 + t5 + t6 + c7 := by
    have k1 : h + t1 = ((c0 + c1) + 256 * (c1 + c2)) + 65536 * (t2 + t3) := by omega
    have k2 : t2 + t3 = ((c2 + c3) + 256 * (c3 + c4)) + 65536 * (t4 + t5) := by omega
    have k3 : t4 + t5 = ((c4 + c5) + 256 * (c5 + c6)) + 65536 * (t6 + c7) := by omega
    have k4 : h + t1 + (t2 + t3) = (((c0 + c1) + 256 * (c1 + c2)) + ((c2 + c3) + 256 * (c3 + c4)) + 65536 * (((c2 + c3) + 256 * (c3 + c4)) + ((c4 + c5) + 256 * (c5 + c6)))) + 4294967296 * (t4 + t5 + t6 + c7) := by omega
    omega
  rw [d3]
  have m1 : (h + t1 + (t2 + t3) + (t4 + t5 + t6 + c7)) = (c0 + c1 + c2 + c3 + c4 + c5 + c6 + c7) + 128 * (2 * t1 + 2 * t2 + 2 * t3 + 2 * t4 + 2 * t5 + 2 * t6 + 2 * c7) := by omega
  omega
theorem sum4 {c0 c1 c2 c3 t1 t2 h : Nat} (h0 : c0 ≤ 8) (h1 : c1 ≤ 8) (h2 : c2 ≤ 8) (h3 : c3 ≤ 8) (e0 : h = c0 + 256 * t1) (e1 : t1 = c1 + 256 * t2) (e2 : t2 = c2 + 256 * c3) : (h + h / 256 + (h + h / 256) / 65536) % 64 = c0 + c1 + c2 + c3 := by
  have d1 : h / 256 = t1 := by omega
  rw [d1]
  have d2 : (h + t1) / 65536 = t2 + c3 := by
    have : h + t1 = ((c0 + c1) + 256 * (c1 + c2)) + 65536 * (t2 + c3) := by omega
    omega
  rw [d2]
  omega
end
