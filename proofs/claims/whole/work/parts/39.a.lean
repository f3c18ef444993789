section
theorem pkT32 {n : Nat} (h : n < 2 ^ 31) : (nI n).toInt = (n : Int) := by
  show (Int32.ofNat n).toInt = (n : Int)
  rw [Int32.toInt_ofNat_of_lt h]
theorem b64 {x : Int} (h1 : -9223372036854775808 ≤ x) (h2 : x < 9223372036854775808) : x.bmod (2 ^ 64) = x := by
  refine Int.bmod_eq_of_le_mul_two ?_ ?_
  · have : ((2 ^ 64 : Nat) : Int) = 18446744073709551616 := rfl
    rw [this]; omega
  · have : ((2 ^ 64 : Nat) : Int) = 18446744073709551616 := rfl
    rw [this]; omega
theorem b32 {x : Int} (h1 : -2147483648 ≤ x) (h2 : x < 2147483648) : x.bmod (2 ^ 32) = x := by
  refine Int.bmod_eq_of_le_mul_two ?_ ?_
  · have : ((2 ^ 32 : Nat) : Int) = 4294967296 := rfl
    rw [this]; omega
  · have : ((2 ^ 32 : Nat) : Int) = 4294967296 := rfl
    rw [this]; omega
theorem ri_i {n : Nat} (h : n < 2 ^ 31) : (ri n).toInt32.toInt = (n : Int) - 2147483648 := by
  rw [Int64.toInt_toInt32, ri_T h, b32 (by omega) (by omega)]
theorem lN_div2 {n : Nat} (h : n < 2 ^ 62) : lN (2 * n) / 2 = lN n := by
  apply Int64.toInt_inj.mp
  rw [Int64.toInt_div, pk_lT (by omega), pk_lT (by omega)]
  have e : (2 : Int64).toInt = 2 := by decide
  rw [e, Int.tdiv_eq_ediv_of_nonneg (by omega), b64 (by omega) (by omega)]
  omega
theorem lN_odd {n : Nat} (h : n < 2 ^ 62) : lN n &&& 1 = lN (n % 2) := by
  apply Int64.toBitVec_inj.mp
  apply BitVec.eq_of_toNat_eq
  rw [Int64.toBitVec_and, BitVec.toNat_and]
  have e : (1 : Int64).toBitVec.toNat = 2 ^ 1 - 1 := by decide
  have e1 : (lN n).toBitVec.toNat = n := by
    show n % 2 ^ 64 = n
    omega
  rw [e, e1, Nat.and_two_pow_sub_one_eq_mod]
  show _ = n % 2 % 2 ^ 64
  omega
theorem lN_sh1 {n : Nat} (h : n < 2 ^ 32) : lN (2 * n + 1) >>> ((1 : Int32).toInt64 &&& 63) = lN n := by
  have e : ((1 : Int32).toInt64 &&& 63) = (1 : Int64) := by decide
  rw [e]
  apply Int64.toInt_inj.mp
  have h1 : (lN (2 * n + 1) >>> (1 : Int64)).toInt = (lN (2 * n + 1)).toInt / 2 ^ 1 := by
    have h : (lN (2 * n + 1) >>> (1 : Int64)).toBitVec = (lN (2 * n + 1)).toBitVec.sshiftRight 1 := by
      rw [Int64.toBitVec_shiftRight]; rfl
    show (lN (2 * n + 1) >>> (1 : Int64)).toBitVec.toInt = _
    rw [h, BitVec.toInt_sshiftRight, Int.shiftRight_eq_div_pow]
    rfl
  rw [h1, pk_lT (by omega), pk_lT (by omega)]
  omega
/-- 31 bits told with their sign -/
theorem i31_s {n : Nat} (h : n < 2 ^ 31) (x : Int64) (hx : x.toInt = (n : Int).bmod (2 ^ 31)) : (((ri n).toInt32 <<< ((1 : Int32) &&& 31)) >>> ((1 : Int32) &&& 31)).toInt64 = x := by
  have e : ((1 : Int32) &&& 31) = (1 : Int32) := by decide
  rw [e]
  apply Int64.toInt_inj.mp
  rw [Int32.toInt_toInt64, hx]
  have h1 : ((ri n).toInt32 <<< (1 : Int32)).toInt = (2 * ((n : Int) - 2147483648)).bmod (2 ^ 32) := by
    have hh : ((ri n).toInt32 <<< (1 : Int32)).toBitVec = (ri n).toInt32.toBitVec <<< 1 := by
      rw [Int32.toBitVec_shiftLeft]; rfl
    show ((ri n).toInt32 <<< (1 : Int32)).toBitVec.toInt = _
    rw [hh, BitVec.toInt_shiftLeft]
    have hi := ri_i h
    have hn : ((ri n).toInt32.toBitVec.toNat : Int) = (n : Int) + 2147483648 := by
      have hh : (ri n).toInt32.toBitVec.toInt = (n : Int) - 2147483648 := hi
      rw [BitVec.toInt_eq_toNat_cond] at hh
      have hl := (ri n).toInt32.toBitVec.isLt
      by_cases c : 2 * (ri n).toInt32.toBitVec.toNat < 2 ^ 32
      · rw [if_pos c] at hh; omega
      · rw [if_neg c] at hh
        have : ((2 ^ 32 : Nat) : Int) = 4294967296 := rfl
        rw [this] at hh; omega
    rw [Nat.shiftLeft_eq]
    have e2 : (((ri n).toInt32.toBitVec.toNat * 2 ^ 1 : Nat) : Int) = 2 * ((n : Int) - 2147483648) + ((2 ^ 32 : Nat) : Int) * 2 := by
      have : ((2 ^ 32 : Nat) : Int) = 4294967296 := rfl
      rw [this]; omega
    rw [e2, Int.add_mul_bmod_self_left]
  have h2 : (((ri n).toInt32 <<< (1 : Int32)) >>> (1 : Int32)).toInt = ((ri n).toInt32 <<< (1 : Int32)).toInt / 2 ^ 1 := by
    have hh : (((ri n).toInt32 <<< (1 : Int32)) >>> (1 : Int32)).toBitVec = ((ri n).toInt32 <<< (1 : Int32)).toBitVec.sshiftRight 1 := by
      rw [Int32.toBitVec_shiftRight]; rfl
    show (((ri n).toInt32 <<< (1 : Int32)) >>> (1 : Int32)).toBitVec.toInt = _
    rw [hh, BitVec.toInt_sshiftRight, Int.shiftRight_eq_div_pow]
    rfl
  rw [h2, h1]
  have e32 : ((2 ^ 32 : Nat) : Int) = 4294967296 := rfl
  have e31 : ((2 ^ 31 : Nat) : Int) = 2147483648 := rfl
  by_cases c : n < 2 ^ 30
  · have a1 : (2 * ((n : Int) - 2147483648)).bmod (2 ^ 32) = 2 * (n : Int) := by
      have : 2 * ((n : Int) - 2147483648) = 2 * (n : Int) + ((2 ^ 32 : Nat) : Int) * (-1) := by rw [e32]; omega
      rw [this, Int.add_mul_bmod_self_left, b32 (by omega) (by omega)]
    have a2 : (n : Int).bmod (2 ^ 31) = n := Int.bmod_eq_of_le_mul_two (by rw [e31]; omega) (by rw [e31]; omega)
    rw [a1, a2]; omega
  · have a1 : (2 * ((n : Int) - 2147483648)).bmod (2 ^ 32) = 2 * (n : Int) - 4294967296 := by
      have : 2 * ((n : Int) - 2147483648) = 2 * (n : Int) - 4294967296 := by omega
      rw [this, b32 (by omega) (by omega)]
    have a2 : (n : Int).bmod (2 ^ 31) = (n : Int) - 2147483648 := by
      have : (n : Int) = ((n : Int) - 2147483648) + ((2 ^ 31 : Nat) : Int) * 1 := by rw [e31]; omega
      rw [this, Int.add_mul_bmod_self_left]
      rw [Int.bmod_eq_of_le_mul_two (by rw [e31]; omega) (by rw [e31]; omega)]
      omega
    rw [a1, a2]; omega
theorem i31_u {n : Nat} (h : n < 2 ^ 31) : ((ri n).toInt32 &&& 2147483647).toInt64 = lN n := by
  have hi := ri_i h
  have hn : (ri n).toInt32.toBitVec.toNat = n + 2147483648 := by
    have hh : (ri n).toInt32.toBitVec.toInt = (n : Int) - 2147483648 := hi
    rw [BitVec.toInt_eq_toNat_cond] at hh
    have hl := (ri n).toInt32.toBitVec.isLt
    by_cases c : 2 * (ri n).toInt32.toBitVec.toNat < 2 ^ 32
    · rw [if_pos c] at hh; omega
    · rw [if_neg c] at hh
      have : ((2 ^ 32 : Nat) : Int) = 4294967296 := rfl
      rw [this] at hh; omega
  have e : (ri n).toInt32 &&& 2147483647 = nI n := by
    apply Int32.toBitVec_inj.mp
    apply BitVec.eq_of_toNat_eq
    rw [Int32.toBitVec_and, BitVec.toNat_and, hn]
    have e1 : (2147483647 : Int32).toBitVec.toNat = 2 ^ 31 - 1 := by decide
    rw [e1, Nat.and_two_pow_sub_one_eq_mod]
    show _ = n % 2 ^ 32
    omega
  rw [e]
  apply Int64.toInt_inj.mp
  rw [Int32.toInt_toInt64, pk_lT (by omega), pkT32 h]
theorem i31_m (a : Int32) (x : Int64) (hx : x.toInt32 = a) : ∃ n, n < 2 ^ 31 ∧ (a ||| (-2147483648)).toInt64 = ri n ∧ (2 : Int64) * (x &&& 2147483647) + 1 = lN (2 * n + 1) := by
  refine ⟨a.toBitVec.toNat % 2 ^ 31, Nat.mod_lt _ (by decide), ?_, ?_⟩
  · apply Int64.toInt_inj.mp
    rw [Int32.toInt_toInt64, ri_T (Nat.mod_lt _ (by decide))]
    have hl := a.toBitVec.isLt
    have hn : (a ||| (-2147483648)).toBitVec.toNat = a.toBitVec.toNat % 2 ^ 31 + 2 ^ 31 := by
      rw [Int32.toBitVec_or, BitVec.toNat_or]
      have e1 : (-2147483648 : Int32).toBitVec.toNat = 2 ^ 31 * 1 := by decide
      rw [e1]
      have e2 : a.toBitVec.toNat = a.toBitVec.toNat % 2 ^ 31 + 2 ^ 31 * (a.toBitVec.toNat / 2 ^ 31) := by omega
      have e3 : a.toBitVec.toNat / 2 ^ 31 < 2 := by omega
      have hm := Nat.mod_lt a.toBitVec.toNat (show 2 ^ 31 > 0 by decide)
      conv => lhs; rw [e2]
      generalize a.toBitVec.toNat % 2 ^ 31 = p at *
      generalize a.toBitVec.toNat / 2 ^ 31 = q at *
      have : q = 0 ∨ q = 1 := by omega
      rcases this with rfl | rfl
      · rw [Nat.mul_zero, Nat.add_zero, Nat.or_comm, ← Nat.two_pow_add_eq_or_of_lt hm]; omega
      · have e4 : p + 2 ^ 31 * 1 = 2 ^ 31 * 1 ||| p := by rw [← Nat.two_pow_add_eq_or_of_lt hm]; omega
        rw [e4, Nat.or_comm (2 ^ 31 * 1) p, Nat.or_assoc, Nat.or_self, Nat.or_comm, ← Nat.two_pow_add_eq_or_of_lt hm]
    show (a ||| (-2147483648)).toBitVec.toInt = _
    rw [BitVec.toInt_eq_toNat_cond, hn, if_neg (by omega)]
    have : ((2 ^ 32 : Nat) : Int) = 4294967296 := rfl
    rw [this]; omega
  · have hm : x &&& 2147483647 = lN (a.toBitVec.toNat % 2 ^ 31) := by
      apply Int64.toBitVec_inj.mp
      apply BitVec.eq_of_toNat_eq
      rw [Int64.toBitVec_and, BitVec.toNat_and]
      have e1 : (2147483647 : Int64).toBitVec.toNat = 2 ^ 31 - 1 := by decide
      rw [e1, Nat.and_two_pow_sub_one_eq_mod, ← hx, Int64.toBitVec_toInt32, BitVec.signExtend_eq_setWidth_of_le _ (by decide), BitVec.toNat_setWidth]
      show _ = x.toBitVec.toNat % 2 ^ 32 % 2 ^ 31 % 2 ^ 64
      omega
    rw [hm]
    have := Nat.mod_lt a.toBitVec.toNat (show 2 ^ 31 > 0 by decide)
    generalize a.toBitVec.toNat % 2 ^ 31 = n at *
    apply Int64.toInt_inj.mp
    rw [Int64.toInt_add, Int64.toInt_mul, pk_lT (by omega), pk_lT (by omega)]
    have e1 : (2 : Int64).toInt = 2 := by decide
    have e2 : (1 : Int64).toInt = 1 := by decide
    rw [e1, e2, b64 (x := 2 * (n : Int)) (by omega) (by omega), b64 (by omega) (by omega)]
    omega
end
