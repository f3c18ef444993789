section
variable {fu w : Nat}
theorem tn_not (x : Int64) {i : Nat} (hi : i < 64) : (x ^^^ (-1)).toBitVec.toNat.testBit i = !x.toBitVec.toNat.testBit i := by
  show (x ^^^ (-1)).toBitVec.getLsbD i = !x.toBitVec.getLsbD i
  rw [Int64.toBitVec_xor, BitVec.getLsbD_xor]
  have : (-1 : Int64).toBitVec = BitVec.allOnes 64 := by decide
  rw [this, BitVec.getLsbD_allOnes]
  simp [hi]
theorem tm_not (x : Int32) {i : Nat} (hi : i < 32) : (x ^^^ (-1)).toBitVec.toNat.testBit i = !x.toBitVec.toNat.testBit i := by
  show (x ^^^ (-1)).toBitVec.getLsbD i = !x.toBitVec.getLsbD i
  rw [Int32.toBitVec_xor, BitVec.getLsbD_xor]
  have : (-1 : Int32).toBitVec = BitVec.allOnes 32 := by decide
  rw [this, BitVec.getLsbD_allOnes]
  simp [hi]
theorem tn_or (x y : Int64) : (x ||| y).toBitVec.toNat = x.toBitVec.toNat ||| y.toBitVec.toNat := by
  rw [Int64.toBitVec_or, BitVec.toNat_or]
/-- one turn of the class's run down -/
theorem hl_5 {n k : Nat} {b : Int64} (hk : k < 64) (hk2 : k ≤ 32) (u : xk_St) : ∃ c, c.toBitVec.toNat = (b.toBitVec.toNat ||| b.toBitVec.toNat / 2 ^ k) ∧ jb_Numbers_leading_5 fu (n + 1) b (nI k) u = jb_Numbers_leading_5 fu n c (nI (k * 2)) u := by
  refine ⟨b ||| ((b.toUInt64 >>> ((nI k).toInt64.toUInt64 &&& Int64.toUInt64 63)).toInt64), ?_, ?_⟩
  · rw [tn_or, tn_ushr b hk]
  · conv => lhs; unfold jb_Numbers_leading_5
    rw [xl_eq, if_neg (fun t => by have := (nI_ltI (a := 32) (by decide) (by omega)).mp t; omega), xl_eq, xl_eq]
    have : nI k * 2 = nI (k * 2) := by
      have : ∀ k, k ≤ 32 → nI k * 2 = nI (k * 2) := by decide +kernel
      exact this k hk2
    rw [this]
theorem hl_lead (hfu : 100 ≤ fu) (x : Int64) (u : xk_St) : ∃ b, smr x.toBitVec.toNat 64 b ∧ b < 2 ^ 64 ∧ ∃ c : Int64, c.toBitVec.toNat = b ∧ fm_Numbers_leading fu x u = fm_Long_bitCount__h (c ^^^ (-1)) u := by
  obtain ⟨n, rfl⟩ : ∃ n, fu = n + 7 := ⟨fu - 7, by omega⟩
  obtain ⟨c1, e1, f1⟩ := hl_5 (fu := n + 7) (n := n + 6) (k := 1) (b := x) (by decide) (by decide) u
  obtain ⟨c2, e2, f2⟩ := hl_5 (fu := n + 7) (n := n + 5) (k := 1 * 2) (b := c1) (by decide) (by decide) u
  obtain ⟨c3, e3, f3⟩ := hl_5 (fu := n + 7) (n := n + 4) (k := 1 * 2 * 2) (b := c2) (by decide) (by decide) u
  obtain ⟨c4, e4, f4⟩ := hl_5 (fu := n + 7) (n := n + 3) (k := 1 * 2 * 2 * 2) (b := c3) (by decide) (by decide) u
  obtain ⟨c5, e5, f5⟩ := hl_5 (fu := n + 7) (n := n + 2) (k := 1 * 2 * 2 * 2 * 2) (b := c4) (by decide) (by decide) u
  obtain ⟨c6, e6, f6⟩ := hl_5 (fu := n + 7) (n := n + 1) (k := 1 * 2 * 2 * 2 * 2 * 2) (b := c5) (by decide) (by decide) u
  have s0 := smr_1 x.toBitVec.toNat
  have s1 := smr_s s0
  rw [← e1] at s1
  have s2 := smr_s s1
  rw [← e2] at s2
  have s3 := smr_s s2
  rw [← e3] at s3
  have s4 := smr_s s3
  rw [← e4] at s4
  have s5 := smr_s s4
  rw [← e5] at s5
  have s6 := smr_s s5
  rw [← e6] at s6
  refine ⟨c6.toBitVec.toNat, s6, c6.toBitVec.isLt, c6, rfl, ?_⟩
  unfold fm_Numbers_leading
  have f1 : jb_Numbers_leading_5 (n + 7) (n + 7) x 1 u = _ := f1
  rw [f1, f2, f3, f4, f5, f6]
  unfold jb_Numbers_leading_5
  rw [xl_eq, if_pos (by decide), xs_idA]
theorem hl_clz (hfu : 100 ≤ fu) {x : Int64} {r : Nat} (hr : r ≤ 64) (h0 : ∀ j, j < r → x.toBitVec.toNat.testBit (63 - j) = false) (h1 : r < 64 → x.toBitVec.toNat.testBit (63 - r) = true) (u : xk_St) : fm_Numbers_leading fu x u = some (nI r, u) := by
  obtain ⟨b, b1, b2, c, c1, c2⟩ := hl_lead hfu x u
  rw [c2, bc64]
  have hb := cl_bits x.toBitVec.isLt b1 hr h0 h1
  have : pcN (c ^^^ (-1)).toBitVec.toNat 64 = 64 - (64 - r) := by
    refine pc_hi 64 (Nat.le_refl _) fun i hi => ?_
    rw [tn_not c hi, c1]
    rw [← hb i hi]
    cases b.testBit i <;> simp
  rw [this, show 64 - (64 - r) = r by omega]
theorem hl_ctz {x : Int64} {r : Nat} (hr : r ≤ 64) (h0 : ∀ j, j < r → x.toBitVec.toNat.testBit j = false) (h1 : r < 64 → x.toBitVec.toNat.testBit r = true) (u : xk_St) : fm_Long_bitCount__h ((x - 1) &&& (x ^^^ (-1))) u = some (nI r, u) := by
  rw [bc64]
  have hb := ct_bits x.toBitVec.isLt hr h0 h1
  have e : (x - 1).toBitVec.toNat = (2 ^ 64 - 1 + x.toBitVec.toNat) % 2 ^ 64 := by
    rw [ud_sub]
    have : (1 : Int64).toBitVec.toNat = 1 := by decide
    rw [this]
  have : pcN ((x - 1) &&& (x ^^^ (-1))).toBitVec.toNat 64 = min r 64 := by
    refine pc_lo 64 fun i hi => ?_
    rw [tn_and, Nat.testBit_and, Bool.and_eq_true, tn_not x hi, e, Bool.not_eq_true', hb i hi]
  rw [this, Nat.min_eq_left hr]
theorem hl_ctz32 {x : Int32} {r : Nat} (hr : r ≤ 32) (h0 : ∀ j, j < r → x.toBitVec.toNat.testBit j = false) (h1 : r < 32 → x.toBitVec.toNat.testBit r = true) (u : xk_St) : fm_Integer_bitCount__h ((x - 1) &&& (x ^^^ (-1))) u = some (nI r, u) := by
  rw [bc32]
  have hb := ct_bits x.toBitVec.isLt hr h0 h1
  have e : (x - 1).toBitVec.toNat = (2 ^ 32 - 1 + x.toBitVec.toNat) % 2 ^ 32 := by
    rw [Int32.toBitVec_sub, BitVec.toNat_sub]
    have : (1 : Int32).toBitVec.toNat = 1 := by decide
    rw [this]
  have : pcN ((x - 1) &&& (x ^^^ (-1))).toBitVec.toNat 32 = min r 32 := by
    refine pc_lo 32 fun i hi => ?_
    rw [tm_and, Nat.testBit_and, Bool.and_eq_true, tm_not x hi, e, Bool.not_eq_true', hb i hi]
  rw [this, Nat.min_eq_left hr]
theorem bit32 (a : Int32) {i : Nat} (hi : i < 32) : a.toInt64.toBitVec.toNat.testBit i = a.toBitVec.toNat.testBit i := by
  rw [← mz_N a, Nat.testBit_mod_two_pow]
  simp [hi]
theorem pc_mod (n : Nat) : ∀ w, pcN n w = pcN (n % 2 ^ w) w := by
  have key : ∀ w v, w ≤ v → pcN n w = pcN (n % 2 ^ v) w := by
    intro w
    induction w with
    | zero => intro v _; rfl
    | succ w ih =>
      intro v hv
      show pcN n w + n / 2 ^ w % 2 = pcN (n % 2 ^ v) w + n % 2 ^ v / 2 ^ w % 2
      rw [ih v (by omega), pc_bit, pc_bit, Nat.testBit_mod_two_pow]
      simp [show w < v by omega]
  exact fun w => key w w (Nat.le_refl _)
/-- counted, on both sides -/
theorem nc64 (hfu : 100 ≤ fu) {k : Nat} (hk : k < 3) (x : Int64) : ∃ r, r ≤ 64 ∧ (∀ u, fm_Numbers_counted64 fu (nI (121 + k)) x u = some (nI r, u)) ∧ ∀ v, fm_Model_counted fu (nI k) x 64 v = some ((nI r).toInt64, v) := by
  have hc : k = 0 ∨ k = 1 ∨ k = 2 := by omega
  rcases hc with rfl | rfl | rfl
  · obtain ⟨r, r1, r2, r3, r4⟩ := mc_clz (w := 64) hfu x (by decide) (Nat.le_refl _)
    refine ⟨r, r1, fun u => ?_, fun v => r4 v⟩
    unfold fm_Numbers_counted64
    rw [if_pos (by decide), xs_idA]
    exact hl_clz hfu r1 r2 r3 u
  · obtain ⟨r, r1, r2, r3, r4⟩ := mc_ctz (w := 64) hfu x (by decide) (Nat.le_refl _)
    refine ⟨r, r1, fun u => ?_, fun v => r4 v⟩
    unfold fm_Numbers_counted64
    rw [if_neg (by decide), if_pos (by decide), xs_idA]
    exact hl_ctz r1 r2 r3 u
  · have hle : ∀ n w, pcN n w ≤ w := fun n w => by
      induction w with
      | zero => exact Nat.le_refl _
      | succ w ih =>
        show pcN n w + n / 2 ^ w % 2 ≤ w + 1
        have := Nat.mod_lt (n / 2 ^ w) (show 0 < 2 by decide)
        omega
    refine ⟨pcN x.toBitVec.toNat 64, hle _ _, fun u => ?_, fun v => mc_pop hfu x (Nat.le_refl _) v⟩
    unfold fm_Numbers_counted64
    rw [if_neg (by decide), if_neg (by decide), xs_idA]
    exact bc64 x u
theorem nc32 (hfu : 100 ≤ fu) {k : Nat} (hk : k < 3) (a : Int32) : ∃ r, r ≤ 32 ∧ (∀ u, fm_Numbers_counted32 fu (nI (103 + k)) a u = some (nI r, u)) ∧ ∀ v, fm_Model_counted fu (nI k) a.toInt64 32 v = some ((nI r).toInt64, v) := by
  have hc : k = 0 ∨ k = 1 ∨ k = 2 := by omega
  rcases hc with rfl | rfl | rfl
  · obtain ⟨r, r1, r2, r3, r4⟩ := mc_clz (w := 32) hfu a.toInt64 (by decide) (by decide)
    refine ⟨r, r1, fun u => ?_, fun v => r4 v⟩
    unfold fm_Numbers_counted32
    have hM : (a.toInt64 &&& 4294967295).toBitVec.toNat = a.toBitVec.toNat := by rw [mz_M, mz_N]
    have hA := a.toBitVec.isLt
    have e := hl_clz (fu := fu) (x := a.toInt64 &&& 4294967295) (r := r + 32) hfu (by omega) (fun j hj => by
      rw [hM]
      by_cases c : j < 32
      · exact Nat.testBit_lt_two_pow (Nat.lt_of_lt_of_le hA (Nat.pow_le_pow_right (by decide) (by omega)))
      · have := r2 (j - 32) (by omega)
        rw [bit32 a (by omega)] at this
        rw [show 63 - j = 32 - 1 - (j - 32) by omega]
        exact this) (fun hr => by
      have := r3 (by omega)
      rw [bit32 a (by omega)] at this
      rw [hM, show 63 - (r + 32) = 32 - 1 - r by omega]
      exact this) u
    rw [if_pos (by decide), e, ys_seq]
    have : nI (r + 32) - 32 = nI r := nI_subb (b := 32)
    rw [this]
  · obtain ⟨r, r1, r2, r3, r4⟩ := mc_ctz (w := 32) hfu a.toInt64 (by decide) (by decide)
    refine ⟨r, r1, fun u => ?_, fun v => r4 v⟩
    unfold fm_Numbers_counted32
    rw [if_neg (by decide), if_pos (by decide), xs_idA]
    exact hl_ctz32 r1 (fun j hj => by rw [← bit32 a (by omega)]; exact r2 j hj) (fun hr => by rw [← bit32 a (by omega)]; exact r3 hr) u
  · have hle : ∀ n w, pcN n w ≤ w := fun n w => by
      induction w with
      | zero => exact Nat.le_refl _
      | succ w ih =>
        show pcN n w + n / 2 ^ w % 2 ≤ w + 1
        have := Nat.mod_lt (n / 2 ^ w) (show 0 < 2 by decide)
        omega
    refine ⟨pcN a.toBitVec.toNat 32, hle _ _, fun u => ?_, fun v => ?_⟩
    · unfold fm_Numbers_counted32
      rw [if_neg (by decide), if_neg (by decide), xs_idA]
      exact bc32 a u
    · have e := mc_pop (w := 32) hfu a.toInt64 (by decide) v
      rw [pc_mod, mz_N] at e
      exact e
end
