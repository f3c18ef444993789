section
theorem xl_eq {α β : Type} (a : α) (f : α → β) : xs_let a f = f a := rfl
/-- unsigned quotient and rest of 64 bits -/
theorem uq (n d : Int64) (hd : ¬ d = 0) : ∃ q, (∀ u, fm_Numbers_quotient n d u = some (q, u)) ∧ (∀ u, fm_Long_divideUnsigned__m n d u = some (q, u)) ∧ (∀ u, fm_Long_remainderUnsigned__m n d u = some (n - q * d, u)) ∧ (d.toBitVec.toNat < 2 ^ 63 → q.toBitVec.toNat = n.toBitVec.toNat / d.toBitVec.toNat) := by
  have hD0 : ¬ d.toBitVec.toNat = 0 := fun t => hd (tn_inj (y := 0) (by rw [t]; decide))
  have hN := n.toBitVec.isLt
  have hDl := d.toBitVec.isLt
  have n0 : n - 0 * d = n := by rw [Int64.zero_mul, Int64.sub_zero]
  have n1 : n - 1 * d = n - d := by rw [Int64.one_mul]
  by_cases c : d < 0
  · have hD := (ms_N d).mp c
    have c' : ¬ (0 : Int64) ≤ d := fun t => by
      have := Int64.lt_iff_toInt_lt.mp c
      have t := Int64.le_iff_toInt_le.mp t
      omega
    have hsub := ud_sub n d
    refine ⟨if d.toBitVec.toNat ≤ n.toBitVec.toNat then 1 else 0, fun u => ?_, fun u => ?_, fun u => ?_, fun t => by omega⟩
    · unfold fm_Numbers_quotient fm_Numbers_isBelow
      rw [if_neg c']
      by_cases z : d.toBitVec.toNat ≤ n.toBitVec.toNat
      · rw [if_pos ((ms_below n d).mpr z), if_pos z, ys_seq, if_pos rfl]
      · rw [if_neg (fun t => z ((ms_below n d).mp t)), if_neg z, ys_seq, if_neg (by decide)]
    · unfold fm_Long_divideUnsigned__m
      rw [if_pos c, ms_u63]
      by_cases z : d.toBitVec.toNat ≤ n.toBitVec.toNat
      · rw [if_pos z, if_pos ((ms_and _ _).mpr ⟨(ms_N n).mpr (by omega), (ms_not _).mpr (fun t => by have := (ms_N _).mp t; omega)⟩)]
      · rw [if_neg z, if_neg (fun t => by
          obtain ⟨t1, t2⟩ := (ms_and _ _).mp t
          have t1 := (ms_N _).mp t1
          have t2 := (ms_not _).mp t2
          have t2 : ¬ 2 ^ 63 ≤ (n - d).toBitVec.toNat := fun q => t2 ((ms_N _).mpr q)
          omega)]
    · unfold fm_Long_remainderUnsigned__m
      rw [if_pos c, ms_s63]
      by_cases z : d.toBitVec.toNat ≤ n.toBitVec.toNat
      · rw [if_pos z, if_pos ((ms_and _ _).mpr ⟨(ms_N n).mpr (by omega), (ms_not _).mpr (fun t => by have := (ms_N _).mp t; omega)⟩), ud_m1, n1]
      · rw [if_neg z, if_neg (fun t => by
          obtain ⟨t1, t2⟩ := (ms_and _ _).mp t
          have t1 := (ms_N _).mp t1
          have t2 := (ms_not _).mp t2
          have t2 : ¬ 2 ^ 63 ≤ (n - d).toBitVec.toNat := fun q => t2 ((ms_N _).mpr q)
          omega), ud_z, n0, Int64.sub_zero]
  · have hD : d.toBitVec.toNat < 2 ^ 63 := Nat.lt_of_not_le fun t => c ((ms_N d).mpr t)
    have c' : (0 : Int64) ≤ d := Int64.le_iff_toInt_le.mpr (by
      have : ¬ d.toInt < 0 := fun t => c (Int64.lt_iff_toInt_lt.mpr t)
      show (0 : Int) ≤ d.toInt
      omega)
    obtain ⟨e1, e2⟩ := ud_qr n d hD
    generalize hq : ((((n.toUInt64 >>> ((1 : Int32).toInt64.toUInt64 &&& Int64.toUInt64 63)).toInt64) / d) <<< ((1 : Int32).toInt64 &&& 63)) = q at *
    have hmod := Nat.mod_lt (n.toBitVec.toNat / 2) (Nat.pos_of_ne_zero hD0)
    have hR : (n - q * d).toBitVec.toNat < 2 * d.toBitVec.toNat := by omega
    have hRl := (n - q * d).toBitVec.isLt
    have hsub := ud_sub (n - q * d) d
    refine ⟨if d.toBitVec.toNat ≤ (n - q * d).toBitVec.toNat then q + 1 else q, fun u => ?_, fun u => ?_, fun u => ?_, fun _ => ?_⟩
    · unfold fm_Numbers_quotient fm_Numbers_isBelow
      rw [if_pos c', if_neg hd, hq, xl_eq]
      by_cases z : d.toBitVec.toNat ≤ (n - q * d).toBitVec.toNat
      · rw [if_pos ((ms_below _ _).mpr z), if_pos z, ys_seq, if_pos rfl]
      · rw [if_neg (fun t => z ((ms_below _ _).mp t)), if_neg z, ys_seq, if_neg (by decide)]
    · unfold fm_Long_divideUnsigned__m
      simp only [xs_let]
      rw [if_neg c, if_neg hd, hq, ms_u63]
      by_cases z : d.toBitVec.toNat ≤ (n - q * d).toBitVec.toNat
      · rw [if_pos z, if_pos ((ms_or _ _).mpr (by
          by_cases y : 2 ^ 63 ≤ (n - q * d).toBitVec.toNat
          · exact Or.inl ((ms_N _).mpr y)
          · exact Or.inr ((ms_not _).mpr (fun t => by have := (ms_N _).mp t; omega))))]
      · rw [if_neg z, if_neg (fun t => by
          rcases (ms_or _ _).mp t with t | t
          · have := (ms_N _).mp t
            omega
          · have t2 := (ms_not _).mp t
            have t2 : ¬ 2 ^ 63 ≤ (n - q * d - d).toBitVec.toNat := fun q => t2 ((ms_N _).mpr q)
            omega), Int64.add_zero]
    · unfold fm_Long_remainderUnsigned__m
      simp only [xs_let]
      rw [if_neg c, if_neg hd, hq, ms_s63]
      by_cases z : d.toBitVec.toNat ≤ (n - q * d).toBitVec.toNat
      · rw [if_pos z, if_pos ((ms_not _).mpr (fun t => by have := (ms_N _).mp t; omega)), ud_m1, ud_one]
      · rw [if_neg z, if_neg (fun t => by
          have t2 := (ms_not _).mp t
          have t2 : ¬ 2 ^ 63 ≤ (n - q * d - d).toBitVec.toNat := fun q => t2 ((ms_N _).mpr q)
          omega), ud_z, Int64.sub_zero]
    · have hdm := Nat.div_add_mod (n.toBitVec.toNat / 2) d.toBitVec.toNat
      have hle : n.toBitVec.toNat / 2 / d.toBitVec.toNat ≤ n.toBitVec.toNat / 2 := Nat.div_le_self _ _
      have en : n.toBitVec.toNat = (n - q * d).toBitVec.toNat + d.toBitVec.toNat * (2 * (n.toBitVec.toNat / 2 / d.toBitVec.toNat)) := by
        have : d.toBitVec.toNat * (2 * (n.toBitVec.toNat / 2 / d.toBitVec.toNat)) = 2 * (d.toBitVec.toNat * (n.toBitVec.toNat / 2 / d.toBitVec.toNat)) := by rw [Nat.mul_left_comm]
        rw [this]
        omega
      have ediv : n.toBitVec.toNat / d.toBitVec.toNat = (n - q * d).toBitVec.toNat / d.toBitVec.toNat + 2 * (n.toBitVec.toNat / 2 / d.toBitVec.toNat) := by
        conv => lhs; rw [en]
        exact Nat.add_mul_div_left _ _ (Nat.pos_of_ne_zero hD0)
      by_cases z : d.toBitVec.toNat ≤ (n - q * d).toBitVec.toNat
      · rw [if_pos z]
        have : (n - q * d).toBitVec.toNat / d.toBitVec.toNat = 1 := by
          rw [Nat.div_eq_sub_div (Nat.pos_of_ne_zero hD0) z, Nat.div_eq_of_lt (by omega)]
        rw [ediv, this, Int64.toBitVec_add, BitVec.toNat_add, e1]
        have : (1 : Int64).toBitVec.toNat = 1 := by decide
        rw [this]; omega
      · rw [if_neg z]
        have : (n - q * d).toBitVec.toNat / d.toBitVec.toNat = 0 := Nat.div_eq_of_lt (by omega)
        rw [ediv, this, e1]; omega
end
