section
theorem sa_l : ∀ k, k < 64 → ((nI k).toInt64 &&& 63).toBitVec.smod 64 = BitVec.ofNat 64 k := by decide +kernel
theorem sa_u : ∀ k, k < 64 → ((nI k).toInt64.toUInt64 &&& Int64.toUInt64 63).toBitVec % 64 = BitVec.ofNat 64 k := by decide +kernel
theorem sa_i : ∀ k, k < 32 → (nI k).toBitVec.smod 32 = BitVec.ofNat 32 k := by decide +kernel
theorem sa_v : ∀ k, k < 32 → (nI k).toUInt32.toBitVec % 32 = BitVec.ofNat 32 k := by decide +kernel
theorem sl_shl {k : Nat} (x : Int64) (hk : k < 64) : (x <<< ((nI k).toInt64 &&& 63)).toBitVec = x.toBitVec <<< k := by
  rw [Int64.toBitVec_shiftLeft, sa_l k hk, BitVec.shiftLeft_eq', BitVec.toNat_ofNat, Nat.mod_eq_of_lt (by omega)]
theorem sl_shr {k : Nat} (x : Int64) (hk : k < 64) : (x >>> ((nI k).toInt64 &&& 63)).toBitVec = x.toBitVec.sshiftRight k := by
  rw [Int64.toBitVec_shiftRight, sa_l k hk]
  show x.toBitVec.sshiftRight (BitVec.ofNat 64 k).toNat = _
  rw [BitVec.toNat_ofNat, Nat.mod_eq_of_lt (by omega)]
theorem sl_ushr {k : Nat} (x : Int64) (hk : k < 64) : (x.toUInt64 >>> ((nI k).toInt64.toUInt64 &&& Int64.toUInt64 63)).toInt64.toBitVec = x.toBitVec >>> k := by
  show (x.toUInt64 >>> ((nI k).toInt64.toUInt64 &&& Int64.toUInt64 63)).toBitVec = _
  rw [UInt64.toBitVec_shiftRight, sa_u k hk, BitVec.ushiftRight_eq', BitVec.toNat_ofNat, Nat.mod_eq_of_lt (by omega)]
  rfl
theorem si_shl {k : Nat} (x : Int32) (hk : k < 32) : (x <<< nI k).toBitVec = x.toBitVec <<< k := by
  rw [Int32.toBitVec_shiftLeft, sa_i k hk, BitVec.shiftLeft_eq', BitVec.toNat_ofNat, Nat.mod_eq_of_lt (by omega)]
theorem si_shr {k : Nat} (x : Int32) (hk : k < 32) : (x >>> nI k).toBitVec = x.toBitVec.sshiftRight k := by
  rw [Int32.toBitVec_shiftRight, sa_i k hk]
  show x.toBitVec.sshiftRight (BitVec.ofNat 32 k).toNat = _
  rw [BitVec.toNat_ofNat, Nat.mod_eq_of_lt (by omega)]
theorem si_ushr {k : Nat} (x : Int32) (hk : k < 32) : (x.toUInt32 >>> (nI k).toUInt32).toInt32.toBitVec = x.toBitVec >>> k := by
  show (x.toUInt32 >>> (nI k).toUInt32).toBitVec = _
  rw [UInt32.toBitVec_shiftRight, sa_v k hk, BitVec.ushiftRight_eq', BitVec.toNat_ofNat, Nat.mod_eq_of_lt (by omega)]
  rfl
theorem sb_shl (a : BitVec 32) (k : Nat) : ((a.signExtend 64) <<< k).setWidth 32 = a <<< k := by
  apply BitVec.eq_of_getLsbD_eq
  intro i hi
  simp only [BitVec.getLsbD_setWidth, BitVec.getLsbD_shiftLeft, BitVec.getLsbD_signExtend]
  by_cases h : i < k
  · simp [h]
  · have : i - k < 32 := by omega
    have h64 : i < 64 := by omega
    have h65 : i - k < 64 := by omega
    simp [hi, h, this, h64, h65]
theorem sb_shr (a : BitVec 32) (k : Nat) (hk : k < 32) : ((a.signExtend 64).sshiftRight k).setWidth 32 = a.sshiftRight k := by
  apply BitVec.eq_of_getLsbD_eq
  intro i hi
  simp only [BitVec.getLsbD_setWidth, BitVec.getLsbD_sshiftRight, BitVec.getLsbD_signExtend]
  have h64 : k + i < 64 := by omega
  have h1 : ¬ 64 ≤ i := by omega
  have h2 : ¬ 32 ≤ i := by omega
  by_cases h : k + i < 32
  · simp [hi, h, h64, h1, h2]
  · simp [hi, h, h64, h1, h2]
theorem sb_ushr (a : BitVec 32) (k : Nat) : ((a.setWidth 64) >>> k).setWidth 32 = a >>> k := by
  apply BitVec.eq_of_getLsbD_eq
  intro i hi
  simp only [BitVec.getLsbD_setWidth, BitVec.getLsbD_ushiftRight]
  by_cases h : k + i < 64
  · simp [hi, h]
  · have : 32 ≤ k + i := by omega
    simp [hi, h, BitVec.getLsbD_of_ge a (k + i) this]
theorem sb_ushl (a : BitVec 32) (k : Nat) : ((a.setWidth 64) <<< k).setWidth 32 = a <<< k := by
  apply BitVec.eq_of_getLsbD_eq
  intro i hi
  simp only [BitVec.getLsbD_setWidth, BitVec.getLsbD_shiftLeft]
  by_cases h : i < k
  · simp [h]
  · have : i - k < 32 := by omega
    have h64 : i < 64 := by omega
    have h65 : i - k < 64 := by omega
    simp [hi, h, h64, h65]
theorem sm_neg (b : Int32) : (-b) &&& 31 = (-(b &&& 31)) &&& 31 := by
  apply Int32.toBitVec_inj.mp
  apply BitVec.eq_of_toNat_eq
  rw [Int32.toBitVec_and, Int32.toBitVec_and, Int32.toBitVec_neg, Int32.toBitVec_neg, Int32.toBitVec_and]
  have e : (31 : Int32).toBitVec.toNat = 2 ^ 5 - 1 := by decide
  rw [BitVec.toNat_and, BitVec.toNat_and, BitVec.toNat_neg, BitVec.toNat_neg, BitVec.toNat_and, e, Nat.and_two_pow_sub_one_eq_mod, Nat.and_two_pow_sub_one_eq_mod, Nat.and_two_pow_sub_one_eq_mod]
  have := b.toBitVec.isLt
  omega
theorem sm_n32 : ∀ k, k < 32 → (-(nI k)) &&& 31 = nI ((32 - k) % 32) ∧ ((32 : Int32) - nI k) &&& ((32 : Int32) - 1) = nI ((32 - k) % 32) := by decide +kernel
theorem sm_n64 : ∀ k, k < 64 → (-(nI k)) &&& 63 = nI ((64 - k) % 64) ∧ ((64 : Int32) - nI k) &&& ((64 : Int32) - 1) = nI ((64 - k) % 64) := by decide +kernel
theorem sm_neg64 (b : Int32) : (-b) &&& 63 = (-(b &&& 63)) &&& 63 := by
  apply Int32.toBitVec_inj.mp
  apply BitVec.eq_of_toNat_eq
  rw [Int32.toBitVec_and, Int32.toBitVec_and, Int32.toBitVec_neg, Int32.toBitVec_neg, Int32.toBitVec_and]
  have e : (63 : Int32).toBitVec.toNat = 2 ^ 6 - 1 := by decide
  rw [BitVec.toNat_and, BitVec.toNat_and, BitVec.toNat_neg, BitVec.toNat_neg, BitVec.toNat_and, e, Nat.and_two_pow_sub_one_eq_mod, Nat.and_two_pow_sub_one_eq_mod, Nat.and_two_pow_sub_one_eq_mod]
  have := b.toBitVec.isLt
  omega
theorem sm_k31 (b : Int32) : ∃ k, k < 32 ∧ b &&& 31 = nI k := by
  refine ⟨b.toBitVec.toNat % 32, Nat.mod_lt _ (by decide), ?_⟩
  apply Int32.toBitVec_inj.mp
  apply BitVec.eq_of_toNat_eq
  rw [Int32.toBitVec_and, BitVec.toNat_and]
  have e : (31 : Int32).toBitVec.toNat = 2 ^ 5 - 1 := by decide
  rw [e, Nat.and_two_pow_sub_one_eq_mod]
  show _ = b.toBitVec.toNat % 32 % 2 ^ 32
  omega
theorem sm_k63 (b : Int32) : ∃ k, k < 64 ∧ b &&& 63 = nI k := by
  refine ⟨b.toBitVec.toNat % 64, Nat.mod_lt _ (by decide), ?_⟩
  apply Int32.toBitVec_inj.mp
  apply BitVec.eq_of_toNat_eq
  rw [Int32.toBitVec_and, BitVec.toNat_and]
  have e : (63 : Int32).toBitVec.toNat = 2 ^ 6 - 1 := by decide
  rw [e, Nat.and_two_pow_sub_one_eq_mod]
  show _ = b.toBitVec.toNat % 64 % 2 ^ 32
  omega
theorem sm_l63 (b : Int32) : b.toInt64 &&& 63 = (b &&& 63).toInt64 := by rw [Int32.toInt64_and]; rfl
theorem sm_63k : ∀ k, k < 64 → (nI k).toInt64 &&& 63 = (nI k).toInt64 := by decide +kernel
theorem ms_neg (x : Int64) : x < 0 ↔ x.toBitVec.msb = true := by
  rw [Int64.lt_iff_toInt_lt]
  show x.toInt < 0 ↔ _
  rw [BitVec.msb_eq_toInt]
  show x.toBitVec.toInt < 0 ↔ decide (x.toBitVec.toInt < 0) = true
  rw [decide_eq_true_iff]
theorem ms_or (x y : Int64) : x ||| y < 0 ↔ x < 0 ∨ y < 0 := by
  rw [ms_neg, ms_neg, ms_neg, Int64.toBitVec_or, BitVec.msb_or, Bool.or_eq_true]
theorem ms_and (x y : Int64) : x &&& y < 0 ↔ x < 0 ∧ y < 0 := by
  rw [ms_neg, ms_neg, ms_neg, Int64.toBitVec_and, BitVec.msb_and, Bool.and_eq_true]
theorem ms_not (x : Int64) : x ^^^ (-1) < 0 ↔ ¬ x < 0 := by
  rw [ms_neg, ms_neg, Int64.toBitVec_xor, BitVec.msb_xor]
  have : (-1 : Int64).toBitVec.msb = true := by decide
  rw [this]
  cases x.toBitVec.msb <;> simp
theorem ms_N (x : Int64) : x < 0 ↔ 2 ^ 63 ≤ x.toBitVec.toNat := by
  rw [ms_neg, BitVec.msb_eq_decide]
  simp
theorem ms_u63 (x : Int64) : (x.toUInt64 >>> ((63 : Int32).toInt64.toUInt64 &&& Int64.toUInt64 63)).toInt64 = if x < 0 then 1 else 0 := by
  have e : ((63 : Int32).toInt64.toUInt64 &&& Int64.toUInt64 63) = (63 : UInt64) := by decide +kernel
  rw [e]
  refine Int64.toBitVec_inj.1 ?_
  have h : (x.toUInt64 >>> (63 : UInt64)).toInt64.toBitVec = x.toBitVec >>> 63 := by
    show (x.toUInt64 >>> (63 : UInt64)).toBitVec = _
    rw [UInt64.toBitVec_shiftRight]
    rfl
  rw [h]
  apply BitVec.eq_of_toNat_eq
  rw [BitVec.toNat_ushiftRight, Nat.shiftRight_eq_div_pow]
  have hl := x.toBitVec.isLt
  by_cases z : x < 0
  · rw [if_pos z]
    have := (ms_N x).mp z
    have e : (1 : Int64).toBitVec.toNat = 1 := by decide
    rw [e]; omega
  · rw [if_neg z]
    have : ¬ 2 ^ 63 ≤ x.toBitVec.toNat := fun t => z ((ms_N x).mpr t)
    have e : (0 : Int64).toBitVec.toNat = 0 := by decide
    rw [e]; omega
theorem ms_s63 (x : Int64) : x >>> ((63 : Int32).toInt64 &&& 63) = if x < 0 then -1 else 0 := by
  have e : ((63 : Int32).toInt64 &&& 63) = (63 : Int64) := by decide +kernel
  rw [e]
  apply Int64.toInt_inj.mp
  have h : (x >>> (63 : Int64)).toInt = x.toInt / 2 ^ 63 := by
    have h : (x >>> (63 : Int64)).toBitVec = x.toBitVec.sshiftRight 63 := by
      rw [Int64.toBitVec_shiftRight]; rfl
    show (x >>> (63 : Int64)).toBitVec.toInt = _
    rw [h, BitVec.toInt_sshiftRight, Int.shiftRight_eq_div_pow]
    rfl
  rw [h]
  have h1 := x.le_toInt
  have h2 := x.toInt_lt
  by_cases z : x < 0
  · rw [if_pos z]
    have z : x.toInt < 0 := Int64.lt_iff_toInt_lt.mp z
    show _ = (-1 : Int)
    omega
  · rw [if_neg z]
    have z : ¬ x.toInt < 0 := fun t => z (Int64.lt_iff_toInt_lt.mpr t)
    show _ = (0 : Int)
    omega
theorem ms_below (x y : Int64) : (y + (-9223372036854775808 : Int64)) ≤ (x + (-9223372036854775808 : Int64)) ↔ y.toBitVec.toNat ≤ x.toBitVec.toNat := by
  have key : ∀ z : Int64, (z + (-9223372036854775808 : Int64)).toInt = (z.toBitVec.toNat : Int) - 9223372036854775808 := fun z => by
    have hl := z.toBitVec.isLt
    rw [Int64.toInt_add]
    have e : (-9223372036854775808 : Int64).toInt = -9223372036854775808 := by decide
    rw [e]
    have ez : z.toInt = if 2 * z.toBitVec.toNat < 2 ^ 64 then (z.toBitVec.toNat : Int) else (z.toBitVec.toNat : Int) - (2 ^ 64 : Nat) := by
      show z.toBitVec.toInt = _
      rw [BitVec.toInt_eq_toNat_cond]
    rw [ez]
    have e64 : ((2 ^ 64 : Nat) : Int) = 18446744073709551616 := rfl
    by_cases c : 2 * z.toBitVec.toNat < 2 ^ 64
    · rw [if_pos c]
      refine Int.bmod_eq_of_le_mul_two ?_ ?_
      · rw [e64]; omega
      · rw [e64]; omega
    · rw [if_neg c, e64]
      have : (z.toBitVec.toNat : Int) - 18446744073709551616 + -9223372036854775808 = ((z.toBitVec.toNat : Int) - 9223372036854775808) + 18446744073709551616 * (-1) := by omega
      rw [this]
      have e3 : (2 ^ 64 : Nat) = 18446744073709551616 := rfl
      rw [e3, show (18446744073709551616 : Int) = ((18446744073709551616 : Nat) : Int) from rfl, Int.add_mul_bmod_self_left]
      refine Int.bmod_eq_of_le_mul_two ?_ ?_
      · omega
      · omega
  rw [Int64.le_iff_toInt_le, key, key]
  omega
theorem ud_h (n : Int64) : (n.toUInt64 >>> ((1 : Int32).toInt64.toUInt64 &&& Int64.toUInt64 63)).toInt64.toBitVec.toNat = n.toBitVec.toNat / 2 := by
  have := sl_ushr (k := 1) n (by decide)
  have : (n.toUInt64 >>> ((1 : Int32).toInt64.toUInt64 &&& Int64.toUInt64 63)).toInt64.toBitVec = n.toBitVec >>> 1 := this
  rw [this, BitVec.toNat_ushiftRight, Nat.shiftRight_eq_div_pow]
theorem ui_pos {x : Int64} (h : x.toBitVec.toNat < 2 ^ 63) : x.toInt = (x.toBitVec.toNat : Int) := by
  show x.toBitVec.toInt = _
  rw [BitVec.toInt_eq_toNat_cond, if_pos (by omega)]
theorem ud_div {h d : Int64} (hh : h.toBitVec.toNat < 2 ^ 63) (hd : d.toBitVec.toNat < 2 ^ 63) : (h / d).toBitVec.toNat = h.toBitVec.toNat / d.toBitVec.toNat := by
  have e := Int64.toInt_div h d
  rw [ui_pos hh, ui_pos hd] at e
  have e2 : ((h.toBitVec.toNat : Int).tdiv (d.toBitVec.toNat : Int)) = ((h.toBitVec.toNat / d.toBitVec.toNat : Nat) : Int) := by
    rw [Int.natCast_ediv]
    exact (Int.tdiv_eq_ediv_of_nonneg (by omega))
  rw [e2] at e
  have hle : h.toBitVec.toNat / d.toBitVec.toNat ≤ h.toBitVec.toNat := Nat.div_le_self _ _
  generalize hQ : h.toBitVec.toNat / d.toBitVec.toNat = Q at *
  have e64 : ((2 ^ 64 : Nat) : Int) = 18446744073709551616 := rfl
  rw [Int.bmod_eq_of_le_mul_two (by rw [e64]; omega) (by rw [e64]; omega)] at e
  have : (h / d).toBitVec.toInt = (Q : Int) := e
  rw [BitVec.toInt_eq_toNat_cond] at this
  have hl := (h / d).toBitVec.isLt
  by_cases c : 2 * (h / d).toBitVec.toNat < 2 ^ 64
  · rw [if_pos c] at this
    omega
  · rw [if_neg c, e64] at this
    omega
theorem ud_q {x : Int64} (hx : x.toBitVec.toNat < 2 ^ 63) : (x <<< ((1 : Int32).toInt64 &&& 63)).toBitVec.toNat = 2 * x.toBitVec.toNat := by
  have : (x <<< ((1 : Int32).toInt64 &&& 63)).toBitVec = x.toBitVec <<< 1 := sl_shl (k := 1) x (by decide)
  rw [this, BitVec.toNat_shiftLeft, Nat.shiftLeft_eq]
  omega
theorem ud_qr (n d : Int64) (hd : d.toBitVec.toNat < 2 ^ 63) : ((((n.toUInt64 >>> ((1 : Int32).toInt64.toUInt64 &&& Int64.toUInt64 63)).toInt64) / d) <<< ((1 : Int32).toInt64 &&& 63)).toBitVec.toNat = 2 * (n.toBitVec.toNat / 2 / d.toBitVec.toNat) ∧ (n - (((((n.toUInt64 >>> ((1 : Int32).toInt64.toUInt64 &&& Int64.toUInt64 63)).toInt64) / d) <<< ((1 : Int32).toInt64 &&& 63)) * d)).toBitVec.toNat = 2 * (n.toBitVec.toNat / 2 % d.toBitVec.toNat) + n.toBitVec.toNat % 2 := by
  have hn := n.toBitVec.isLt
  have e1 := ud_h n
  have e2 := ud_div (h := (n.toUInt64 >>> ((1 : Int32).toInt64.toUInt64 &&& Int64.toUInt64 63)).toInt64) (d := d) (by rw [e1]; omega) hd
  rw [e1] at e2
  have hle : n.toBitVec.toNat / 2 / d.toBitVec.toNat ≤ n.toBitVec.toNat / 2 := Nat.div_le_self _ _
  have e3 := ud_q (x := (n.toUInt64 >>> ((1 : Int32).toInt64.toUInt64 &&& Int64.toUInt64 63)).toInt64 / d) (by rw [e2]; omega)
  rw [e2] at e3
  refine ⟨e3, ?_⟩
  rw [Int64.toBitVec_sub, Int64.toBitVec_mul, BitVec.toNat_sub, BitVec.toNat_mul, e3]
  have hdm := Nat.div_add_mod (n.toBitVec.toNat / 2) d.toBitVec.toNat
  have ec : 2 * (n.toBitVec.toNat / 2 / d.toBitVec.toNat) * d.toBitVec.toNat = 2 * (d.toBitVec.toNat * (n.toBitVec.toNat / 2 / d.toBitVec.toNat)) := by
    rw [Nat.mul_assoc, Nat.mul_comm (n.toBitVec.toNat / 2 / d.toBitVec.toNat)]
  rw [ec]
  generalize d.toBitVec.toNat * (n.toBitVec.toNat / 2 / d.toBitVec.toNat) = m at *
  omega

theorem tn_inj {x y : Int64} (h : x.toBitVec.toNat = y.toBitVec.toNat) : x = y := Int64.toBitVec_inj.mp (BitVec.eq_of_toNat_eq h)
theorem ud_sub (x y : Int64) : (x - y).toBitVec.toNat = (2 ^ 64 - y.toBitVec.toNat + x.toBitVec.toNat) % 2 ^ 64 := by
  rw [Int64.toBitVec_sub, BitVec.toNat_sub]
theorem ud_m1 (d : Int64) : (-1 : Int64) &&& d = d := by
  apply Int64.toBitVec_inj.mp
  rw [Int64.toBitVec_and]
  have : (-1 : Int64).toBitVec = BitVec.allOnes 64 := by decide
  rw [this, BitVec.allOnes_and]
theorem ud_z (d : Int64) : (0 : Int64) &&& d = 0 := by
  apply Int64.toBitVec_inj.mp
  rw [Int64.toBitVec_and]
  have : (0 : Int64).toBitVec = 0#64 := by decide
  rw [this, BitVec.zero_and]
theorem ud_one (q d n : Int64) : n - (q + 1) * d = (n - q * d) - d := by
  apply Int64.toBitVec_inj.mp
  simp only [Int64.toBitVec_sub, Int64.toBitVec_mul, Int64.toBitVec_add]
  have : (1 : Int64).toBitVec = 1#64 := by decide
  rw [this, BitVec.add_mul, BitVec.one_mul]
  generalize q.toBitVec * d.toBitVec = m
  apply BitVec.eq_of_toNat_eq
  simp only [BitVec.toNat_sub, BitVec.toNat_add]
  have h1 := m.isLt
  have h2 := d.toBitVec.isLt
  have h3 := n.toBitVec.isLt
  omega
end
