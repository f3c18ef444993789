section
theorem fc_s {k n : Nat} (hn : n < 256 ^ (k + 1)) : f3 (k + 1) (f2 (k + 1) (f1 (k + 1) n)) = pcN (n % 256) 8 + 256 * f3 k (f2 k (f1 k (n / 256))) ∧ n / 256 < 256 ^ k := by
  refine ⟨(f_all (k + 1) n hn).2, ?_⟩
  rw [Nat.pow_succ] at hn
  exact Nat.div_lt_of_lt_mul (by rw [Nat.mul_comm]; exact hn)
theorem fc_8 (x : Nat) : pcN (x % 256) 8 ≤ 8 := (b_all (x % 256) (Nat.mod_lt _ (by decide))).2.2.2
theorem bc_8 {n h : Nat} (hn : n < 2 ^ 64) (hh : h = f3 8 (f2 8 (f1 8 n))) : (h + h / 256 + (h + h / 256) / 65536 + (h + h / 256 + (h + h / 256) / 65536) / 4294967296) % 128 = pcN n 64 := by
  obtain ⟨a0, b0⟩ := fc_s (k := 7) (n := n) (by omega)
  obtain ⟨a1, b1⟩ := fc_s (k := 6) b0
  obtain ⟨a2, b2⟩ := fc_s (k := 5) b1
  obtain ⟨a3, b3⟩ := fc_s (k := 4) b2
  obtain ⟨a4, b4⟩ := fc_s (k := 3) b3
  obtain ⟨a5, b5⟩ := fc_s (k := 2) b4
  obtain ⟨a6, b6⟩ := fc_s (k := 1) b5
  obtain ⟨a7, b7⟩ := fc_s (k := 0) b6
  have a8 : ∀ m, f3 0 (f2 0 (f1 0 m)) = 0 := fun m => by
    show (_ &&& 0) = 0
    exact Nat.and_zero _
  rw [a8, Nat.mul_zero, Nat.add_zero] at a7
  rw [a7] at a6
  rw [sum8 (fc_8 _) (fc_8 _) (fc_8 _) (fc_8 _) (fc_8 _) (fc_8 _) (fc_8 _) (fc_8 _) (hh.trans a0) a1 a2 a3 a4 a5 a6]
  rw [show (64 : Nat) = 8 + 56 from rfl, pc_s, show (56 : Nat) = 8 + 48 from rfl, pc_s, show (48 : Nat) = 8 + 40 from rfl, pc_s, show (40 : Nat) = 8 + 32 from rfl, pc_s, show (32 : Nat) = 8 + 24 from rfl, pc_s, show (24 : Nat) = 8 + 16 from rfl, pc_s, show (16 : Nat) = 8 + 8 from rfl, pc_s]
  have : ∀ m, pcN m 8 = pcN (m % 256) 8 := fun m => by
    have := pc_s m 0
    simpa [pcN] using this
  rw [this (n / 256 / 256 / 256 / 256 / 256 / 256 / 256)]
  omega
theorem bc_4 {n h : Nat} (hn : n < 2 ^ 32) (hh : h = f3 4 (f2 4 (f1 4 n))) : (h + h / 256 + (h + h / 256) / 65536) % 64 = pcN n 32 := by
  obtain ⟨a4, b4⟩ := fc_s (k := 3) (n := n) (by omega)
  obtain ⟨a5, b5⟩ := fc_s (k := 2) b4
  obtain ⟨a6, b6⟩ := fc_s (k := 1) b5
  obtain ⟨a7, b7⟩ := fc_s (k := 0) b6
  have a8 : ∀ m, f3 0 (f2 0 (f1 0 m)) = 0 := fun m => by
    show (_ &&& 0) = 0
    exact Nat.and_zero _
  rw [a8, Nat.mul_zero, Nat.add_zero] at a7
  rw [a7] at a6
  rw [sum4 (fc_8 _) (fc_8 _) (fc_8 _) (fc_8 _) (hh.trans a4) a5 a6]
  rw [show (32 : Nat) = 8 + 24 from rfl, pc_s, show (24 : Nat) = 8 + 16 from rfl, pc_s, show (16 : Nat) = 8 + 8 from rfl, pc_s]
  have : ∀ m, pcN m 8 = pcN (m % 256) 8 := fun m => by
    have := pc_s m 0
    simpa [pcN] using this
  rw [this (n / 256 / 256 / 256)]
  omega
theorem tn_ushr {k : Nat} (x : Int64) (hk : k < 64) : (x.toUInt64 >>> ((nI k).toInt64.toUInt64 &&& Int64.toUInt64 63)).toInt64.toBitVec.toNat = x.toBitVec.toNat / 2 ^ k := by
  rw [sl_ushr x hk, BitVec.toNat_ushiftRight, Nat.shiftRight_eq_div_pow]
theorem tn_and (x y : Int64) : (x &&& y).toBitVec.toNat = x.toBitVec.toNat &&& y.toBitVec.toNat := by
  rw [Int64.toBitVec_and, BitVec.toNat_and]
theorem tn_add {x y : Int64} (h : x.toBitVec.toNat + y.toBitVec.toNat < 2 ^ 64) : (x + y).toBitVec.toNat = x.toBitVec.toNat + y.toBitVec.toNat := by
  rw [Int64.toBitVec_add, BitVec.toNat_add, Nat.mod_eq_of_lt h]
theorem tn_sub {x y : Int64} (h : y.toBitVec.toNat ≤ x.toBitVec.toNat) : (x - y).toBitVec.toNat = x.toBitVec.toNat - y.toBitVec.toNat := by
  rw [ud_sub]
  have := x.toBitVec.isLt
  have := y.toBitVec.isLt
  omega
/-- bits of 64 counted -/
theorem bc64 (x : Int64) (u : xk_St) : fm_Long_bitCount__h x u = some (nI (pcN x.toBitVec.toNat 64), u) := by
  unfold fm_Long_bitCount__h
  rw [xl_eq, xl_eq, xl_eq, xl_eq, xl_eq, xl_eq]
  have hx := x.toBitVec.isLt
  have e1 : (x - (((x.toUInt64 >>> ((1 : Int32).toInt64.toUInt64 &&& Int64.toUInt64 63)).toInt64) &&& (6148914691236517205 : Int64))).toBitVec.toNat = f1 8 x.toBitVec.toNat := by
    have s1 : (((x.toUInt64 >>> ((1 : Int32).toInt64.toUInt64 &&& Int64.toUInt64 63)).toInt64) &&& (6148914691236517205 : Int64)).toBitVec.toNat = (x.toBitVec.toNat / 2 &&& rep 85 8) := by
      rw [tn_and, show (x.toUInt64 >>> ((1 : Int32).toInt64.toUInt64 &&& Int64.toUInt64 63)).toInt64.toBitVec.toNat = x.toBitVec.toNat / 2 ^ 1 from tn_ushr (k := 1) x (by decide)]
      rfl
    have := an_le (x.toBitVec.toNat / 2) (rep 85 8)
    rw [tn_sub (by rw [s1]; omega), s1]
    rfl
  generalize (x - (((x.toUInt64 >>> ((1 : Int32).toInt64.toUInt64 &&& Int64.toUInt64 63)).toInt64) &&& (6148914691236517205 : Int64))) = a1 at *
  have l3 : rep 51 8 = 3689348814741910323 := by decide
  have e2 : ((a1 &&& (3689348814741910323 : Int64)) + (((a1.toUInt64 >>> ((2 : Int32).toInt64.toUInt64 &&& Int64.toUInt64 63)).toInt64) &&& (3689348814741910323 : Int64))).toBitVec.toNat = f2 8 (f1 8 x.toBitVec.toNat) := by
    have s1 : (((a1.toUInt64 >>> ((2 : Int32).toInt64.toUInt64 &&& Int64.toUInt64 63)).toInt64) &&& (3689348814741910323 : Int64)).toBitVec.toNat = (a1.toBitVec.toNat / 4 &&& rep 51 8) := by
      rw [tn_and, show (a1.toUInt64 >>> ((2 : Int32).toInt64.toUInt64 &&& Int64.toUInt64 63)).toInt64.toBitVec.toNat = a1.toBitVec.toNat / 2 ^ 2 from tn_ushr (k := 2) a1 (by decide)]
      rfl
    have s2 : (a1 &&& (3689348814741910323 : Int64)).toBitVec.toNat = (a1.toBitVec.toNat &&& rep 51 8) := by
      rw [tn_and]; rfl
    have b1 : (a1.toBitVec.toNat / 4 &&& rep 51 8) ≤ rep 51 8 := Nat.and_le_right
    have b2 : (a1.toBitVec.toNat &&& rep 51 8) ≤ rep 51 8 := Nat.and_le_right
    rw [tn_add (by rw [s1, s2]; omega), s1, s2, e1]
    rfl
  have l2 : f2 8 (f1 8 x.toBitVec.toNat) ≤ 2 * 3689348814741910323 := by
    rw [← l3]
    have b1 : (f1 8 x.toBitVec.toNat / 4 &&& rep 51 8) ≤ rep 51 8 := Nat.and_le_right
    have b2 : (f1 8 x.toBitVec.toNat &&& rep 51 8) ≤ rep 51 8 := Nat.and_le_right
    show (f1 8 x.toBitVec.toNat &&& rep 51 8) + (f1 8 x.toBitVec.toNat / 4 &&& rep 51 8) ≤ _
    omega
  generalize ((a1 &&& (3689348814741910323 : Int64)) + (((a1.toUInt64 >>> ((2 : Int32).toInt64.toUInt64 &&& Int64.toUInt64 63)).toInt64) &&& (3689348814741910323 : Int64))) = a2 at *
  have e3 : ((a2 + ((a2.toUInt64 >>> ((4 : Int32).toInt64.toUInt64 &&& Int64.toUInt64 63)).toInt64)) &&& (1085102592571150095 : Int64)).toBitVec.toNat = f3 8 (f2 8 (f1 8 x.toBitVec.toNat)) := by
    have s1 : ((a2.toUInt64 >>> ((4 : Int32).toInt64.toUInt64 &&& Int64.toUInt64 63)).toInt64).toBitVec.toNat = a2.toBitVec.toNat / 16 := tn_ushr (k := 4) a2 (by decide)
    rw [tn_and, tn_add (by rw [s1]; omega), s1, e2]
    rfl
  have l4 : f3 8 (f2 8 (f1 8 x.toBitVec.toNat)) ≤ 1085102592571150095 := by
    have : rep 15 8 = 1085102592571150095 := by decide
    rw [← this]
    exact Nat.and_le_right
  have hf := bc_8 hx rfl
  generalize f3 8 (f2 8 (f1 8 x.toBitVec.toNat)) = h at *
  generalize ((a2 + ((a2.toUInt64 >>> ((4 : Int32).toInt64.toUInt64 &&& Int64.toUInt64 63)).toInt64)) &&& (1085102592571150095 : Int64)) = a3 at *
  have e4 : (a3 + ((a3.toUInt64 >>> ((8 : Int32).toInt64.toUInt64 &&& Int64.toUInt64 63)).toInt64)).toBitVec.toNat = h + h / 256 := by
    have s1 : ((a3.toUInt64 >>> ((8 : Int32).toInt64.toUInt64 &&& Int64.toUInt64 63)).toInt64).toBitVec.toNat = a3.toBitVec.toNat / 256 := tn_ushr (k := 8) a3 (by decide)
    rw [tn_add (by rw [s1]; omega), s1, e3]
  generalize (a3 + ((a3.toUInt64 >>> ((8 : Int32).toInt64.toUInt64 &&& Int64.toUInt64 63)).toInt64)) = a4 at *
  have l5 : h + h / 256 ≤ 2 * 1085102592571150095 := by omega
  generalize h + h / 256 = A at *
  have e5 : (a4 + ((a4.toUInt64 >>> ((16 : Int32).toInt64.toUInt64 &&& Int64.toUInt64 63)).toInt64)).toBitVec.toNat = A + A / 65536 := by
    have s1 : ((a4.toUInt64 >>> ((16 : Int32).toInt64.toUInt64 &&& Int64.toUInt64 63)).toInt64).toBitVec.toNat = a4.toBitVec.toNat / 65536 := tn_ushr (k := 16) a4 (by decide)
    rw [tn_add (by rw [s1]; omega), s1, e4]
  generalize (a4 + ((a4.toUInt64 >>> ((16 : Int32).toInt64.toUInt64 &&& Int64.toUInt64 63)).toInt64)) = a5 at *
  have l6 : A + A / 65536 ≤ 4 * 1085102592571150095 := by omega
  generalize A + A / 65536 = C at *
  have e6 : (a5 + ((a5.toUInt64 >>> ((32 : Int32).toInt64.toUInt64 &&& Int64.toUInt64 63)).toInt64)).toBitVec.toNat = C + C / 4294967296 := by
    have s1 : ((a5.toUInt64 >>> ((32 : Int32).toInt64.toUInt64 &&& Int64.toUInt64 63)).toInt64).toBitVec.toNat = a5.toBitVec.toNat / 4294967296 := tn_ushr (k := 32) a5 (by decide)
    rw [tn_add (by rw [s1]; omega), s1, e5]
  generalize (a5 + ((a5.toUInt64 >>> ((32 : Int32).toInt64.toUInt64 &&& Int64.toUInt64 63)).toInt64)) = a6 at *
  congr 2
  apply i32_inj
  apply BitVec.eq_of_toNat_eq
  rw [Int32.toBitVec_and, BitVec.toNat_and, tb32, BitVec.toNat_setWidth, e6]
  have c1 : (127 : Int32).toBitVec.toNat = 2 ^ 7 - 1 := by decide
  rw [c1, Nat.and_two_pow_sub_one_eq_mod, ← hf]
  show _ = (C + C / 4294967296) % 128 % 2 ^ 32
  generalize C + C / 4294967296 = Z
  rw [Nat.mod_mod_of_dvd _ (show 2 ^ 7 ∣ 2 ^ 32 by decide), Nat.mod_eq_of_lt (show Z % 128 < 2 ^ 32 by omega)]
end
