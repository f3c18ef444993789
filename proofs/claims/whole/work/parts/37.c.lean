section
variable {k : Nat}
theorem xs_idA {α : Type} {o : Option (α × xk_St)} : (xs_seq o fun a u => some (a, u)) = o := by
  rcases o with _ | ⟨a, b⟩ <;> rfl
theorem tb32 (x : Int64) : x.toInt32.toBitVec = x.toBitVec.setWidth 32 := by
  rw [Int64.toBitVec_toInt32, BitVec.signExtend_eq_setWidth_of_le _ (by decide)]
theorem mz_N (a : Int32) : a.toInt64.toBitVec.toNat % 2 ^ 32 = a.toBitVec.toNat := by
  have h : a.toInt64.toInt32.toBitVec.toNat = a.toBitVec.toNat := by rw [Int32.toInt32_toInt64]
  rw [tb32, BitVec.toNat_setWidth] at h
  exact h
theorem mz_M (x : Int64) : (x &&& 4294967295).toBitVec.toNat = x.toBitVec.toNat % 2 ^ 32 := by
  rw [Int64.toBitVec_and, BitVec.toNat_and]
  have e : (4294967295 : Int64).toBitVec.toNat = 2 ^ 32 - 1 := by decide
  rw [e, Nat.and_two_pow_sub_one_eq_mod]
theorem mz_32 (a : Int32) : (a.toInt64 &&& 4294967295).toBitVec = a.toBitVec.setWidth 64 := by
  apply BitVec.eq_of_toNat_eq
  rw [mz_M, mz_N, BitVec.toNat_setWidth, Nat.mod_eq_of_lt (by have := a.toBitVec.isLt; omega)]
theorem i32_inj {a b : Int32} (h : a.toBitVec = b.toBitVec) : a = b := Int32.toBitVec_inj.mp h
theorem md_trap0 (hk : k < 15) (h : ¬ (3 ≤ k ∧ k ≤ 6)) (x y m : Int64) (u : xk_St) : fm_Numbers_trapOf (nI k) x y m u = some (0, u) := by
  unfold fm_Numbers_trapOf
  by_cases c : k < 3
  · rw [if_pos (show nI k < 3 from (nI_ltI (b := 3) (by omega) (by decide)).mpr c)]
  · rw [if_neg (show ¬ nI k < 3 from fun t => c ((nI_ltI (b := 3) (by omega) (by decide)).mp t)), if_neg (show ¬ nI k ≤ 6 from fun t => by have := (nI_leI (b := 6) (by omega) (by decide)).mp t; omega)]
/-- the shifts and turns of 32 bits, as class and reference have them -/
theorem mv_32 (a b : Int32) : ∃ k, k < 32 ∧ b &&& 31 = nI k ∧ (b.toInt64.toInt32 &&& ((32 : Int32) - 1)) = nI k ∧ ((-b) &&& 31) = nI ((32 - k) % 32) ∧ (((32 : Int32) - nI k) &&& ((32 : Int32) - 1)) = nI ((32 - k) % 32) := by
  obtain ⟨k, k1, k2⟩ := sm_k31 b
  refine ⟨k, k1, k2, ?_, ?_, (sm_n32 k k1).2⟩
  · rw [Int32.toInt32_toInt64]; exact k2
  · rw [sm_neg, k2]; exact (sm_n32 k k1).1
theorem n32_sh (k : Nat) (hk : 10 ≤ k) (hk2 : k < 15) (a b : Int32) : ∃ R : Int64, (∀ u, fm_Numbers_answer32 (nI k) a b u = some (R.toInt32, u)) ∧ ∀ v, fm_Model_reckoned (nI (k + 3)) a.toInt64 b.toInt64 32 v = some (R, v) := by
  obtain ⟨s, s1, s2, s3, s4, s5⟩ := mv_32 a b
  have hm : (32 - s) % 32 < 32 := Nat.mod_lt _ (by decide)
  have au : b.toUInt32 &&& Int32.toUInt32 31 = (nI s).toUInt32 := by rw [← s2]; rfl
  have an : (-b).toUInt32 &&& Int32.toUInt32 31 = (nI ((32 - s) % 32)).toUInt32 := by rw [← s4]; rfl
  have hc : k = 10 ∨ k = 11 ∨ k = 12 ∨ k = 13 ∨ k = 14 := by omega
  have m25 : ∀ (o : Nat) v, fm_Model_moved (nI o) a.toInt64 b.toInt64 32 v = jb_Model_moved_25 (nI o) a.toInt64 32 (nI s) (a.toInt64 &&& 4294967295) v := fun o v => by
    unfold fm_Model_moved
    rw [xl_eq, if_pos rfl, s3]
  have rk : ∀ (o : Nat) (ho : o < 5) v, fm_Model_reckoned (nI (o + 13)) a.toInt64 b.toInt64 32 v = fm_Model_moved (nI o) a.toInt64 b.toInt64 32 v := fun o ho v => by
    have : o = 0 ∨ o = 1 ∨ o = 2 ∨ o = 3 ∨ o = 4 := by omega
    unfold fm_Model_reckoned
    rcases this with rfl | rfl | rfl | rfl | rfl
    · iterate 10 rw [if_neg (by decide)]
      rw [xs_idA, show nI (0 + 13) - 13 = nI 0 by decide]
    · iterate 10 rw [if_neg (by decide)]
      rw [xs_idA, show nI (1 + 13) - 13 = nI 1 by decide]
    · iterate 10 rw [if_neg (by decide)]
      rw [xs_idA, show nI (2 + 13) - 13 = nI 2 by decide]
    · iterate 10 rw [if_neg (by decide)]
      rw [xs_idA, show nI (3 + 13) - 13 = nI 3 by decide]
    · iterate 10 rw [if_neg (by decide)]
      rw [xs_idA, show nI (4 + 13) - 13 = nI 4 by decide]
  have z0 : s = 0 → nI ((32 - s) % 32) = nI 0 := fun t => by rw [t]
  rcases hc with rfl | rfl | rfl | rfl | rfl
  · refine ⟨a.toInt64 <<< ((nI s).toInt64 &&& 63), fun u => ?_, fun v => ?_⟩
    · unfold fm_Numbers_answer32
      iterate 10 rw [if_neg (by decide)]
      rw [if_pos (by decide), s2]
      congr 2
      apply i32_inj
      rw [si_shl a s1, tb32, sl_shl _ (by omega), Int32.toBitVec_toInt64, sb_shl]
    · rw [rk 0 (by decide) v, m25]
      unfold jb_Model_moved_25
      rw [xl_eq, if_pos (by decide)]
  · refine ⟨a.toInt64 >>> ((nI s).toInt64 &&& 63), fun u => ?_, fun v => ?_⟩
    · unfold fm_Numbers_answer32
      iterate 11 rw [if_neg (by decide)]
      rw [if_pos (by decide), s2]
      congr 2
      apply i32_inj
      rw [si_shr a s1, tb32, sl_shr _ (by omega), Int32.toBitVec_toInt64, sb_shr _ _ s1]
    · rw [rk 1 (by decide) v, m25]
      unfold jb_Model_moved_25
      rw [xl_eq, if_neg (by decide), if_pos (by decide)]
  · refine ⟨((a.toInt64 &&& 4294967295).toUInt64 >>> ((nI s).toInt64.toUInt64 &&& Int64.toUInt64 63)).toInt64, fun u => ?_, fun v => ?_⟩
    · unfold fm_Numbers_answer32
      iterate 12 rw [if_neg (by decide)]
      rw [if_pos (by decide), au]
      congr 2
      apply i32_inj
      rw [si_ushr a s1, tb32, sl_ushr _ (by omega), mz_32, sb_ushr]
    · rw [rk 2 (by decide) v, m25]
      unfold jb_Model_moved_25
      rw [xl_eq, if_neg (by decide), if_neg (by decide), if_pos (by decide)]
  · refine ⟨if s = 0 then a.toInt64 else ((a.toInt64 &&& 4294967295) <<< ((nI s).toInt64 &&& 63)) ||| ((a.toInt64 &&& 4294967295).toUInt64 >>> ((nI ((32 - s) % 32)).toInt64.toUInt64 &&& Int64.toUInt64 63)).toInt64, fun u => ?_, fun v => ?_⟩
    · unfold fm_Numbers_answer32
      iterate 13 rw [if_neg (by decide)]
      rw [if_pos (by decide), s2, an]
      congr 2
      apply i32_inj
      rw [Int32.toBitVec_or, si_shl a s1, si_ushr a hm]
      by_cases c : s = 0
      · rw [if_pos c, c, Int32.toInt32_toInt64]
        simp
      · rw [if_neg c, tb32, Int64.toBitVec_or, sl_shl _ (by omega), sl_ushr _ (by omega), mz_32, BitVec.setWidth_or, sb_ushl, sb_ushr]
    · rw [rk 3 (by decide) v, m25]
      unfold jb_Model_moved_25
      rw [xl_eq, if_neg (by decide), if_neg (by decide), if_neg (by decide), if_pos (by decide), s5]
      by_cases c : s = 0
      · rw [if_pos c, if_pos (by rw [c]; rfl)]
      · rw [if_neg c, if_neg (show ¬ nI s = 0 from fun t => c ((nI_eq (b := 0) (by omega) (by decide)).mp t))]
  · refine ⟨if s = 0 then a.toInt64 else ((a.toInt64 &&& 4294967295).toUInt64 >>> ((nI s).toInt64.toUInt64 &&& Int64.toUInt64 63)).toInt64 ||| ((a.toInt64 &&& 4294967295) <<< ((nI ((32 - s) % 32)).toInt64 &&& 63)), fun u => ?_, fun v => ?_⟩
    · unfold fm_Numbers_answer32
      iterate 14 rw [if_neg (by decide)]
      rw [s4, au]
      congr 2
      apply i32_inj
      rw [Int32.toBitVec_or, si_shl a hm, si_ushr a s1]
      by_cases c : s = 0
      · rw [if_pos c, c, Int32.toInt32_toInt64]
        simp
      · rw [if_neg c, tb32, Int64.toBitVec_or, sl_shl _ (by omega), sl_ushr _ (by omega), mz_32, BitVec.setWidth_or, sb_ushl, sb_ushr]
    · rw [rk 4 (by decide) v, m25]
      unfold jb_Model_moved_25
      rw [xl_eq, if_neg (by decide), if_neg (by decide), if_neg (by decide), if_neg (by decide), s5]
      by_cases c : s = 0
      · rw [if_pos c, if_pos (by rw [c]; rfl)]
      · rw [if_neg c, if_neg (show ¬ nI s = 0 from fun t => c ((nI_eq (b := 0) (by omega) (by decide)).mp t))]
end
