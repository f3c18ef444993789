section
theorem tm_ushr {k : Nat} (x : Int32) (hk : k < 32) : (x.toUInt32 >>> ((nI k).toUInt32 &&& Int32.toUInt32 31)).toInt32.toBitVec.toNat = x.toBitVec.toNat / 2 ^ k := by
  have e : ∀ k, k < 32 → (nI k).toUInt32 &&& Int32.toUInt32 31 = (nI k).toUInt32 := by decide +kernel
  rw [e k hk, si_ushr x hk, BitVec.toNat_ushiftRight, Nat.shiftRight_eq_div_pow]
theorem tm_and (x y : Int32) : (x &&& y).toBitVec.toNat = x.toBitVec.toNat &&& y.toBitVec.toNat := by
  rw [Int32.toBitVec_and, BitVec.toNat_and]
theorem tm_add {x y : Int32} (h : x.toBitVec.toNat + y.toBitVec.toNat < 2 ^ 32) : (x + y).toBitVec.toNat = x.toBitVec.toNat + y.toBitVec.toNat := by
  rw [Int32.toBitVec_add, BitVec.toNat_add, Nat.mod_eq_of_lt h]
theorem tm_sub {x y : Int32} (h : y.toBitVec.toNat ≤ x.toBitVec.toNat) : (x - y).toBitVec.toNat = x.toBitVec.toNat - y.toBitVec.toNat := by
  rw [Int32.toBitVec_sub, BitVec.toNat_sub]
  have := x.toBitVec.isLt
  have := y.toBitVec.isLt
  omega
/-- bits of 32 counted -/
theorem bc32 (x : Int32) (u : xk_St) : fm_Integer_bitCount__h x u = some (nI (pcN x.toBitVec.toNat 32), u) := by
  unfold fm_Integer_bitCount__h
  rw [xl_eq, xl_eq, xl_eq, xl_eq, xl_eq]
  have hx := x.toBitVec.isLt
  have e1 : (x - (((x.toUInt32 >>> ((1 : Int32).toUInt32 &&& Int32.toUInt32 31)).toInt32) &&& (1431655765 : Int32))).toBitVec.toNat = f1 4 x.toBitVec.toNat := by
    have s1 : (((x.toUInt32 >>> ((1 : Int32).toUInt32 &&& Int32.toUInt32 31)).toInt32) &&& (1431655765 : Int32)).toBitVec.toNat = (x.toBitVec.toNat / 2 &&& rep 85 4) := by
      rw [tm_and, show (x.toUInt32 >>> ((1 : Int32).toUInt32 &&& Int32.toUInt32 31)).toInt32.toBitVec.toNat = x.toBitVec.toNat / 2 ^ 1 from tm_ushr (k := 1) x (by decide)]
      rfl
    have := an_le (x.toBitVec.toNat / 2) (rep 85 4)
    rw [tm_sub (by rw [s1]; omega), s1]
    rfl
  generalize (x - (((x.toUInt32 >>> ((1 : Int32).toUInt32 &&& Int32.toUInt32 31)).toInt32) &&& (1431655765 : Int32))) = a1 at *
  have l3 : rep 51 4 = 858993459 := by decide
  have e2 : ((a1 &&& (858993459 : Int32)) + (((a1.toUInt32 >>> ((2 : Int32).toUInt32 &&& Int32.toUInt32 31)).toInt32) &&& (858993459 : Int32))).toBitVec.toNat = f2 4 (f1 4 x.toBitVec.toNat) := by
    have s1 : (((a1.toUInt32 >>> ((2 : Int32).toUInt32 &&& Int32.toUInt32 31)).toInt32) &&& (858993459 : Int32)).toBitVec.toNat = (a1.toBitVec.toNat / 4 &&& rep 51 4) := by
      rw [tm_and, show (a1.toUInt32 >>> ((2 : Int32).toUInt32 &&& Int32.toUInt32 31)).toInt32.toBitVec.toNat = a1.toBitVec.toNat / 2 ^ 2 from tm_ushr (k := 2) a1 (by decide)]
      rfl
    have s2 : (a1 &&& (858993459 : Int32)).toBitVec.toNat = (a1.toBitVec.toNat &&& rep 51 4) := by
      rw [tm_and]; rfl
    have b1 : (a1.toBitVec.toNat / 4 &&& rep 51 4) ≤ rep 51 4 := Nat.and_le_right
    have b2 : (a1.toBitVec.toNat &&& rep 51 4) ≤ rep 51 4 := Nat.and_le_right
    rw [tm_add (by rw [s1, s2]; omega), s1, s2, e1]
    rfl
  have l2 : f2 4 (f1 4 x.toBitVec.toNat) ≤ 2 * 858993459 := by
    rw [← l3]
    have b1 : (f1 4 x.toBitVec.toNat / 4 &&& rep 51 4) ≤ rep 51 4 := Nat.and_le_right
    have b2 : (f1 4 x.toBitVec.toNat &&& rep 51 4) ≤ rep 51 4 := Nat.and_le_right
    show (f1 4 x.toBitVec.toNat &&& rep 51 4) + (f1 4 x.toBitVec.toNat / 4 &&& rep 51 4) ≤ _
    omega
  generalize ((a1 &&& (858993459 : Int32)) + (((a1.toUInt32 >>> ((2 : Int32).toUInt32 &&& Int32.toUInt32 31)).toInt32) &&& (858993459 : Int32))) = a2 at *
  have e3 : ((a2 + ((a2.toUInt32 >>> ((4 : Int32).toUInt32 &&& Int32.toUInt32 31)).toInt32)) &&& (252645135 : Int32)).toBitVec.toNat = f3 4 (f2 4 (f1 4 x.toBitVec.toNat)) := by
    have s1 : ((a2.toUInt32 >>> ((4 : Int32).toUInt32 &&& Int32.toUInt32 31)).toInt32).toBitVec.toNat = a2.toBitVec.toNat / 16 := tm_ushr (k := 4) a2 (by decide)
    rw [tm_and, tm_add (by rw [s1]; omega), s1, e2]
    rfl
  have l4 : f3 4 (f2 4 (f1 4 x.toBitVec.toNat)) ≤ 252645135 := by
    have : rep 15 4 = 252645135 := by decide
    rw [← this]
    exact Nat.and_le_right
  have hf := bc_4 hx rfl
  generalize f3 4 (f2 4 (f1 4 x.toBitVec.toNat)) = h at *
  generalize ((a2 + ((a2.toUInt32 >>> ((4 : Int32).toUInt32 &&& Int32.toUInt32 31)).toInt32)) &&& (252645135 : Int32)) = a3 at *
  have e4 : (a3 + ((a3.toUInt32 >>> ((8 : Int32).toUInt32 &&& Int32.toUInt32 31)).toInt32)).toBitVec.toNat = h + h / 256 := by
    have s1 : ((a3.toUInt32 >>> ((8 : Int32).toUInt32 &&& Int32.toUInt32 31)).toInt32).toBitVec.toNat = a3.toBitVec.toNat / 256 := tm_ushr (k := 8) a3 (by decide)
    rw [tm_add (by rw [s1]; omega), s1, e3]
  generalize (a3 + ((a3.toUInt32 >>> ((8 : Int32).toUInt32 &&& Int32.toUInt32 31)).toInt32)) = a4 at *
  have l5 : h + h / 256 ≤ 2 * 252645135 := by omega
  generalize h + h / 256 = A at *
  have e5 : (a4 + ((a4.toUInt32 >>> ((16 : Int32).toUInt32 &&& Int32.toUInt32 31)).toInt32)).toBitVec.toNat = A + A / 65536 := by
    have s1 : ((a4.toUInt32 >>> ((16 : Int32).toUInt32 &&& Int32.toUInt32 31)).toInt32).toBitVec.toNat = a4.toBitVec.toNat / 65536 := tm_ushr (k := 16) a4 (by decide)
    rw [tm_add (by rw [s1]; omega), s1, e4]
  generalize (a4 + ((a4.toUInt32 >>> ((16 : Int32).toUInt32 &&& Int32.toUInt32 31)).toInt32)) = a5 at *
  congr 2
  apply i32_inj
  apply BitVec.eq_of_toNat_eq
  rw [tm_and, e5]
  have c1 : (63 : Int32).toBitVec.toNat = 2 ^ 6 - 1 := by decide
  rw [c1, Nat.and_two_pow_sub_one_eq_mod, ← hf]
  show _ = (A + A / 65536) % 64 % 2 ^ 32
  generalize A + A / 65536 = Z
  rw [Nat.mod_eq_of_lt (show Z % 64 < 2 ^ 32 by omega)]
end
