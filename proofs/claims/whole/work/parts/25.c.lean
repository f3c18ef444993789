theorem yz_sar (x : Int64) {s : Nat} (hs : s < 64) : (x >>> ((nI s).toInt64 &&& 63)).toInt = x.toInt / ((2 ^ s : Nat) : Int) := by
  rw [wb_c s hs]
  show (x >>> lN s).toBitVec.toInt = _
  have e : ((lN s).toBitVec.smod 64) = BitVec.ofNat 64 s := by rw [wb_tb]; exact wb_sm s hs
  rw [Int64.toBitVec_shiftRight]
  show (x.toBitVec.sshiftRight' ((lN s).toBitVec.smod 64)).toInt = _
  rw [e, BitVec.sshiftRight_eq', BitVec.toInt_sshiftRight, BitVec.toNat_ofNat, Nat.mod_eq_of_lt (by omega), Int.shiftRight_eq_div_pow]
  rfl
theorem yz_lN (m : Nat) : (lN m).toInt = (m : Int).bmod (2 ^ 64) := by
  show (BitVec.ofNat 64 m).toInt = _
  rw [BitVec.toInt_ofNat']
theorem yz_shl (x : Int64) {s : Nat} (hs : s < 64) : (x <<< ((nI s).toInt64 &&& 63)).toInt = (x.toInt * ((2 ^ s : Nat) : Int)).bmod (2 ^ 64) := by
  obtain ⟨n, hn, rfl⟩ := wb_of x
  rw [wb_shl n hs, yz_lN, yz_lN, Int.bmod_mul_bmod, Int.natCast_mul]
theorem yz_ext (x : Int64) {n : Nat} (h0 : 0 < n) (hn : n ≤ 64) : ((x <<< ((nI (64 - n)).toInt64 &&& 63)) >>> ((nI (64 - n)).toInt64 &&& 63)).toInt = x.toInt.bmod (2 ^ n) := by
  rw [yz_sar _ (by omega), yz_shl _ (by omega)]
  have hP : (2 : Nat) ^ n * 2 ^ (64 - n) = 2 ^ 64 := by rw [← Nat.pow_add]; congr 1; omega
  obtain ⟨H, hH⟩ : ∃ H, (2 : Nat) ^ n = 2 * H := ⟨2 ^ (n - 1), by rw [← Nat.pow_succ']; congr 1; omega⟩
  have hp0 : 0 < (2 : Nat) ^ (64 - n) := Nat.pow_pos (by decide)
  have hm0 : 0 < (2 : Nat) ^ n := Nat.pow_pos (by decide)
  have hb := Int.bmod_add_bdiv x.toInt (2 ^ n)
  have b1 := Int.le_bmod (x := x.toInt) (m := 2 ^ n) hm0
  have b2 := Int.bmod_lt (x := x.toInt) (m := 2 ^ n) hm0
  generalize hP' : (2 : Nat) ^ (64 - n) = P at *
  generalize ha : x.toInt.bmod (2 ^ n) = a at *
  generalize ht : x.toInt.bdiv (2 ^ n) = t at *
  rw [hH] at hb b1 b2 hP
  have c1 : -(H : Int) ≤ a := by omega
  have c2 : a < (H : Int) := by omega
  have e2 : (H : Int) * P * 2 = 18446744073709551616 := by
    have : ((2 * H * P : Nat) : Int) = ((2 ^ 64 : Nat) : Int) := by rw [hP]
    rw [Int.natCast_mul, Int.natCast_mul] at this
    have e3 : ((2 ^ 64 : Nat) : Int) = 18446744073709551616 := rfl
    rw [e3] at this
    rw [Int.mul_comm _ 2, ← Int.mul_assoc]
    exact this
  have hP0 : (0 : Int) ≤ (P : Int) := Int.natCast_nonneg _
  have hP1 : (0 : Int) < (P : Int) := by exact_mod_cast hp0
  have d1 := Int.mul_le_mul_of_nonneg_right c1 hP0
  have d2 := Int.mul_lt_mul_of_pos_right c2 hP1
  rw [Int.neg_mul] at d1
  have e4 : x.toInt * (P : Int) = a * P + ((2 ^ 64 : Nat) : Int) * t := by
    rw [← hb, Int.add_mul, Int.mul_assoc, Int.mul_comm t, ← Int.mul_assoc]
    congr 1
    rw [show ((2 * H : Nat) : Int) * (P : Int) = ((2 ^ 64 : Nat) : Int) by rw [← Int.natCast_mul, hP]]
  rw [e4, Int.add_mul_bmod_self_left, Int.bmod_eq_of_le_mul_two, Int.mul_ediv_cancel _ (by omega)]
  · have e3 : ((2 ^ 64 : Nat) : Int) = 18446744073709551616 := rfl
    rw [e3]; omega
  · have e3 : ((2 ^ 64 : Nat) : Int) = 18446744073709551616 := rfl
    rw [e3]; omega
theorem yz_bm {x : Int} {n : Nat} : x.bmod (2 ^ (n + 1)) = x ↔ -((2 ^ n : Nat) : Int) ≤ x ∧ x < ((2 ^ n : Nat) : Int) := by
  have hm0 : 0 < (2 : Nat) ^ (n + 1) := Nat.pow_pos (by decide)
  have e : (2 : Nat) ^ (n + 1) = 2 * 2 ^ n := Nat.pow_succ'
  constructor
  · intro h
    have b1 := Int.le_bmod (x := x) (m := 2 ^ (n + 1)) hm0
    have b2 := Int.bmod_lt (x := x) (m := 2 ^ (n + 1)) hm0
    rw [h] at b1 b2
    generalize (2 : Nat) ^ (n + 1) = M at *
    generalize (2 : Nat) ^ n = H at *
    omega
  · intro h
    refine Int.bmod_eq_of_le_mul_two ?_ ?_
    · generalize (2 : Nat) ^ (n + 1) = M at *
      generalize (2 : Nat) ^ n = H at *
      omega
    · generalize (2 : Nat) ^ (n + 1) = M at *
      generalize (2 : Nat) ^ n = H at *
      omega
theorem yz_i {a b : Int64} : a = b ↔ a.toInt = b.toInt := Int64.toInt_inj.symm
theorem yz_fit (x : Int64) {w : Nat} (hw : w < 64) : ((x >>> ((nI w).toInt64 &&& 63)) = 0 ∨ (x >>> ((nI w).toInt64 &&& 63)) = -1) ↔ ((x <<< ((nI (64 - (w + 1))).toInt64 &&& 63)) >>> ((nI (64 - (w + 1))).toInt64 &&& 63)) = x := by
  rw [yz_i, yz_i, yz_i, yz_ext x (by omega) (by omega), yz_sar x hw, yz_bm]
  have h0 : (0 : Int64).toInt = 0 := rfl
  have h1 : (-1 : Int64).toInt = -1 := rfl
  rw [h0, h1]
  have hp : (0 : Int) < ((2 ^ w : Nat) : Int) := by exact_mod_cast Nat.pow_pos (by decide)
  generalize ((2 ^ w : Nat) : Int) = P at *
  generalize x.toInt = y at *
  constructor
  · rintro (h | h)
    · have := Int.mul_ediv_add_emod y P
      have := Int.emod_nonneg y (by omega : P ≠ 0)
      have := Int.emod_lt_of_pos y hp
      rw [h] at *
      omega
    · have := Int.mul_ediv_add_emod y P
      have := Int.emod_nonneg y (by omega : P ≠ 0)
      have := Int.emod_lt_of_pos y hp
      rw [h] at *
      omega
  · rintro ⟨a, b⟩
    by_cases hy : 0 ≤ y
    · left
      exact Int.ediv_eq_zero_of_lt hy b
    · right
      have e : y = (y + P) + P * (-1) := by omega
      rw [e, Int.add_mul_ediv_left _ _ (by omega : P ≠ 0), Int.ediv_eq_zero_of_lt (by omega) (by omega)]
      rfl
theorem yz_64 : ∀ j, j < 128 → ((nI j &&& 64) = 0 ↔ j < 64) := by decide +kernel
theorem yz_fin {m jQ Q : Nat} (h1 : 64 * Q ≤ jQ) (h2 : m + jQ < 128 * Q) : -((64 * Q : Nat) : Int) ≤ ((m + jQ : Nat) : Int) - 128 * (Q : Int) ∧ ((m + jQ : Nat) : Int) - 128 * (Q : Int) < ((64 * Q : Nat) : Int) := by omega
/-- the sign comes over all bits above: the class shifts it there, the reference lays ones -/
theorem yz_S {k j m : Nat} (hk : k ≤ 8) (hj : j < 128) (hm : m < 2 ^ (7 * k)) :
    ((lN (m + j * 2 ^ (7 * k)) <<< ((nI (57 - 7 * k)).toInt64 &&& 63)) >>> ((nI (57 - 7 * k)).toInt64 &&& 63)) = if (nI j &&& 64) = 0 then lN (m + j * 2 ^ (7 * k)) else lN (m + j * 2 ^ (7 * k)) ||| ((-1 : Int64) <<< ((nI (7 * (k + 1))).toInt64 &&& 63)) := by
  have hn : 57 - 7 * k = 64 - (7 * (k + 1)) := by omega
  have hq : (2 : Nat) ^ (7 * (k + 1)) = 128 * 2 ^ (7 * k) := by rw [Nat.mul_succ, Nat.pow_add, Nat.mul_comm]
  have hq1 : (2 : Nat) ^ (7 * k + 6 + 1) = 128 * 2 ^ (7 * k) := by rw [← hq]; congr 1
  have hq2 : (2 : Nat) ^ (7 * k + 6) = 64 * 2 ^ (7 * k) := by rw [Nat.pow_add, Nat.mul_comm]
  have hQ : 2 ^ (7 * k) ≤ 2 ^ 56 := Nat.pow_le_pow_right (by decide) (by omega)
  have hQ0 : 0 < 2 ^ (7 * k) := Nat.pow_pos (by decide)
  have hR : (2 : Nat) ^ (7 * (k + 1)) * 2 ^ (64 - 7 * (k + 1)) = 2 ^ 64 := by rw [← Nat.pow_add]; congr 1; omega
  have hsum : m + j * 2 ^ (7 * k) < 128 * 2 ^ (7 * k) := by
    have : j * 2 ^ (7 * k) + 2 ^ (7 * k) ≤ 128 * 2 ^ (7 * k) := by
      have := Nat.mul_le_mul_right (2 ^ (7 * k)) (show j + 1 ≤ 128 by omega)
      rw [Nat.add_mul, Nat.one_mul] at this
      exact this
    omega
  have h63 : (2 : Nat) ^ 63 = 128 * 2 ^ 56 := by decide
  have hv : m + j * 2 ^ (7 * k) < 2 ^ 63 := by omega
  have hvi : (lN (m + j * 2 ^ (7 * k))).toInt = ((m + j * 2 ^ (7 * k) : Nat) : Int) := by
    rw [yz_lN]
    refine Int.bmod_eq_of_le_mul_two ?_ ?_
    · omega
    · have e3 : ((2 ^ 64 : Nat) : Int) = 18446744073709551616 := rfl
      have e4 : (2 : Nat) ^ 63 = 9223372036854775808 := rfl
      rw [e3]; rw [e4] at hv; omega
  rw [yz_i, hn, yz_ext _ (by omega) (by omega), hvi]
  by_cases h : j < 64
  · rw [if_pos ((yz_64 j hj).mpr h), hvi]
    rw [show 7 * (k + 1) = 7 * k + 6 + 1 by omega, yz_bm, hq2]
    have : j * 2 ^ (7 * k) + 2 ^ (7 * k) ≤ 64 * 2 ^ (7 * k) := by
      have := Nat.mul_le_mul_right (2 ^ (7 * k)) (show j + 1 ≤ 64 by omega)
      rw [Nat.add_mul, Nat.one_mul] at this
      exact this
    omega
  · rw [if_neg (fun z => h ((yz_64 j hj).mp z))]
    have hge : 64 * 2 ^ (7 * k) ≤ j * 2 ^ (7 * k) := Nat.mul_le_mul_right _ (by omega)
    have e1 : ((-1 : Int64) <<< ((nI (7 * (k + 1))).toInt64 &&& 63)) = lN ((2 ^ (64 - 7 * (k + 1)) - 1) * 2 ^ (7 * (k + 1))) := by
      rw [show (-1 : Int64) = lN (2 ^ 64 - 1) from rfl, wb_shl _ (by omega), wb_mod, wb_mod ((2 ^ (64 - 7 * (k + 1)) - 1) * 2 ^ (7 * (k + 1)))]
      congr 1
      generalize hA : (2 : Nat) ^ (7 * (k + 1)) = A at *
      generalize hC : (2 : Nat) ^ (64 - 7 * (k + 1)) = C at *
      have hA0 : 0 < A := by omega
      have hC0 : 0 < C := by rw [← hC]; exact Nat.pow_pos (by decide)
      rw [Nat.sub_mul, Nat.sub_mul, Nat.one_mul, Nat.mul_comm C A, hR]
      have hA1 : A ≤ 2 ^ 64 := by rw [← hR]; exact Nat.le_mul_of_pos_right _ hC0
      obtain ⟨A', rfl⟩ : ∃ A', A = A' + 1 := ⟨A - 1, by omega⟩
      have e5 : 2 ^ 64 * (A' + 1) - (A' + 1) = 2 ^ 64 - (A' + 1) + 2 ^ 64 * A' := by
        rw [Nat.mul_succ]
        omega
      rw [e5, Nat.add_mul_mod_self_left]
    have hlt : m + j * 2 ^ (7 * k) + (2 ^ (64 - 7 * (k + 1)) - 1) * 2 ^ (7 * (k + 1)) = 2 ^ 64 - (128 * 2 ^ (7 * k)) + (m + j * 2 ^ (7 * k)) := by
      rw [Nat.sub_mul, Nat.one_mul, Nat.mul_comm (2 ^ (64 - 7 * (k + 1))), hR, hq]
      omega
    rw [e1, g_or' (k := 7 * (k + 1)) rfl (by omega) (by rw [hlt]; omega), hlt, yz_lN]
    have e3 : ((2 ^ 64 : Nat) : Int) = 18446744073709551616 := rfl
    have e4 : (2 : Nat) ^ 64 = 18446744073709551616 := rfl
    have e6 : (2 : Nat) ^ 56 = 72057594037927936 := rfl
    rw [e6] at hQ
    have r1 : ((2 ^ 64 - 128 * 2 ^ (7 * k) + (m + j * 2 ^ (7 * k)) : Nat) : Int).bmod (2 ^ 64) = ((m + j * 2 ^ (7 * k) : Nat) : Int) - 128 * ((2 ^ (7 * k) : Nat) : Int) := by
      have e7 : ((2 ^ 64 - 128 * 2 ^ (7 * k) + (m + j * 2 ^ (7 * k)) : Nat) : Int) = (((m + j * 2 ^ (7 * k) : Nat) : Int) - 128 * ((2 ^ (7 * k) : Nat) : Int)) + ((2 ^ 64 : Nat) : Int) * 1 := by
        rw [e3, e4]
        generalize (2 : Nat) ^ (7 * k) = Q at *
        generalize j * Q = jQ at *
        omega
      rw [e7, Int.add_mul_bmod_self_left]
      refine Int.bmod_eq_of_le_mul_two ?_ ?_
      · rw [e3]
        generalize (2 : Nat) ^ (7 * k) = Q at *
        generalize j * Q = jQ at *
        omega
      · rw [e3]
        generalize (2 : Nat) ^ (7 * k) = Q at *
        generalize j * Q = jQ at *
        omega
    rw [r1]
    have e8 : ((m + j * 2 ^ (7 * k) : Nat) : Int) = (((m + j * 2 ^ (7 * k) : Nat) : Int) - 128 * ((2 ^ (7 * k) : Nat) : Int)) + ((2 ^ (7 * (k + 1)) : Nat) : Int) * 1 := by
      rw [hq, Int.natCast_mul]
      omega
    rw [e8, Int.add_mul_bmod_self_left, ← e8]
    rw [show 7 * (k + 1) = 7 * k + 6 + 1 by omega, yz_bm, hq2]
    exact yz_fin hge hsum
