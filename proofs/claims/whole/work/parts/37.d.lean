section
variable {k : Nat}
theorem mv_64 (b : Int64) : ∃ k, k < 64 ∧ b.toInt32.toInt64 &&& 63 = (nI k).toInt64 &&& 63 ∧ b.toInt32.toInt64.toUInt64 &&& Int64.toUInt64 63 = (nI k).toInt64.toUInt64 &&& Int64.toUInt64 63 ∧ (b.toInt32 &&& ((64 : Int32) - 1)) = nI k ∧ ((-b).toInt32.toInt64 &&& 63) = (nI ((64 - k) % 64)).toInt64 &&& 63 ∧ ((-b).toInt32.toInt64.toUInt64 &&& Int64.toUInt64 63) = (nI ((64 - k) % 64)).toInt64.toUInt64 &&& Int64.toUInt64 63 ∧ (((64 : Int32) - nI k) &&& ((64 : Int32) - 1)) = nI ((64 - k) % 64) := by
  obtain ⟨k, k1, k2⟩ := sm_k63 b.toInt32
  have hm : (64 - k) % 64 < 64 := Nat.mod_lt _ (by decide)
  have e1 : b.toInt32.toInt64 &&& 63 = (nI k).toInt64 &&& 63 := by rw [sm_l63, k2, sm_63k k k1]
  have e2 : (-b).toInt32.toInt64 &&& 63 = (nI ((64 - k) % 64)).toInt64 &&& 63 := by
    rw [sm_l63, show (-b).toInt32 = - b.toInt32 from Int64.toInt32_neg b, sm_neg64, k2, (sm_n64 k k1).1, sm_63k _ hm]
  have cu : ∀ x y : Int64, x &&& 63 = y &&& 63 → x.toUInt64 &&& Int64.toUInt64 63 = y.toUInt64 &&& Int64.toUInt64 63 := fun x y h => congrArg Int64.toUInt64 h
  exact ⟨k, k1, e1, cu _ _ e1, k2, e2, cu _ _ e2, (sm_n64 k k1).2⟩
theorem n64_sh (k : Nat) (hk : 10 ≤ k) (hk2 : k < 15) (a b : Int64) : ∃ R : Int64, (∀ u, fm_Numbers_answer64 (nI k) a b u = some (R, u)) ∧ ∀ v, fm_Model_reckoned (nI (k + 3)) a b 64 v = some (R, v) := by
  obtain ⟨s, s1, s2, s2u, s3, s4, s4u, s5⟩ := mv_64 b
  have hm : (64 - s) % 64 < 64 := Nat.mod_lt _ (by decide)
  have hc : k = 10 ∨ k = 11 ∨ k = 12 ∨ k = 13 ∨ k = 14 := by omega
  have m25 : ∀ (o : Nat) v, fm_Model_moved (nI o) a b 64 v = jb_Model_moved_25 (nI o) a 64 (nI s) a v := fun o v => by
    unfold fm_Model_moved
    rw [xl_eq, if_neg (by decide), s3]
  have rk : ∀ (o : Nat) (ho : o < 5) v, fm_Model_reckoned (nI (o + 13)) a b 64 v = fm_Model_moved (nI o) a b 64 v := fun o ho v => by
    have : o = 0 ∨ o = 1 ∨ o = 2 ∨ o = 3 ∨ o = 4 := by omega
    unfold fm_Model_reckoned
    rcases this with rfl | rfl | rfl | rfl | rfl
    · iterate 10 rw [if_neg (by decide)]
      rw [xs_idA, show nI (0 + 13) - 13 = nI 0 by decide]
    · iterate 10 rw [if_neg (by decide)]
      rw [xs_idA, show nI (1 + 13) - 13 = nI 1 by decide]
    · iterate 10 rw [if_neg (by decide)]
      rw [xs_idA, show nI (2 + 13) - 13 = nI 2 by decide]
    · iterate 10 rw [if_neg (by decide)]
      rw [xs_idA, show nI (3 + 13) - 13 = nI 3 by decide]
    · iterate 10 rw [if_neg (by decide)]
      rw [xs_idA, show nI (4 + 13) - 13 = nI 4 by decide]
  have z3 : s = 0 → (a <<< ((nI s).toInt64 &&& 63)) ||| ((a.toUInt64 >>> ((nI ((64 - s) % 64)).toInt64.toUInt64 &&& Int64.toUInt64 63)).toInt64) = a := fun t => by
    apply Int64.toBitVec_inj.mp
    rw [Int64.toBitVec_or, sl_shl _ s1, sl_ushr _ hm, t]
    simp
  have z4 : s = 0 → ((a.toUInt64 >>> ((nI s).toInt64.toUInt64 &&& Int64.toUInt64 63)).toInt64) ||| (a <<< ((nI ((64 - s) % 64)).toInt64 &&& 63)) = a := fun t => by
    apply Int64.toBitVec_inj.mp
    rw [Int64.toBitVec_or, sl_shl _ hm, sl_ushr _ s1, t]
    simp
  have ns : ¬ s = 0 → ¬ nI s = 0 := fun c t => c ((nI_eq (b := 0) (by omega) (by decide)).mp t)
  rcases hc with rfl | rfl | rfl | rfl | rfl
  · refine ⟨a <<< ((nI s).toInt64 &&& 63), fun u => ?_, fun v => ?_⟩
    · unfold fm_Numbers_answer64
      iterate 10 rw [if_neg (by decide)]
      rw [if_pos (by decide), s2]
    · rw [rk 0 (by decide) v, m25]
      unfold jb_Model_moved_25
      rw [xl_eq, if_pos (by decide)]
  · refine ⟨a >>> ((nI s).toInt64 &&& 63), fun u => ?_, fun v => ?_⟩
    · unfold fm_Numbers_answer64
      iterate 11 rw [if_neg (by decide)]
      rw [if_pos (by decide), s2]
    · rw [rk 1 (by decide) v, m25]
      unfold jb_Model_moved_25
      rw [xl_eq, if_neg (by decide), if_pos (by decide)]
  · refine ⟨(a.toUInt64 >>> ((nI s).toInt64.toUInt64 &&& Int64.toUInt64 63)).toInt64, fun u => ?_, fun v => ?_⟩
    · unfold fm_Numbers_answer64
      iterate 12 rw [if_neg (by decide)]
      rw [if_pos (by decide), s2u]
    · rw [rk 2 (by decide) v, m25]
      unfold jb_Model_moved_25
      rw [xl_eq, if_neg (by decide), if_neg (by decide), if_pos (by decide)]
  · refine ⟨(a <<< ((nI s).toInt64 &&& 63)) ||| ((a.toUInt64 >>> ((nI ((64 - s) % 64)).toInt64.toUInt64 &&& Int64.toUInt64 63)).toInt64), fun u => ?_, fun v => ?_⟩
    · unfold fm_Numbers_answer64
      iterate 13 rw [if_neg (by decide)]
      rw [if_pos (by decide), s2, s4u]
    · rw [rk 3 (by decide) v, m25]
      unfold jb_Model_moved_25
      rw [xl_eq, if_neg (by decide), if_neg (by decide), if_neg (by decide), if_pos (by decide), s5]
      by_cases c : s = 0
      · rw [z3 c, if_pos (by rw [c]; rfl)]
      · rw [if_neg (ns c)]
  · refine ⟨((a.toUInt64 >>> ((nI s).toInt64.toUInt64 &&& Int64.toUInt64 63)).toInt64) ||| (a <<< ((nI ((64 - s) % 64)).toInt64 &&& 63)), fun u => ?_, fun v => ?_⟩
    · unfold fm_Numbers_answer64
      iterate 14 rw [if_neg (by decide)]
      rw [s2u, s4]
    · rw [rk 4 (by decide) v, m25]
      unfold jb_Model_moved_25
      rw [xl_eq, if_neg (by decide), if_neg (by decide), if_neg (by decide), if_neg (by decide), s5]
      by_cases c : s = 0
      · rw [z4 c, if_pos (by rw [c]; rfl)]
      · rw [if_neg (ns c)]
end
