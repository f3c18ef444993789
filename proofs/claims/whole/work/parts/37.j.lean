section
variable {fu w : Nat}
theorem rb_bit {j : Nat} (x : Int64) (hj : j < 64) : (x >>> ((nI j).toInt64 &&& 63)) &&& 1 = lN (x.toBitVec.toNat / 2 ^ j % 2) := by
  apply tn_inj
  rw [tn_and, sl_shr x hj]
  have e1 : (1 : Int64).toBitVec.toNat = 2 ^ 1 - 1 := by decide
  rw [e1, Nat.and_two_pow_sub_one_eq_mod, pc_bit]
  have e2 : (x.toBitVec.sshiftRight j).toNat % 2 ^ 1 = if (x.toBitVec.sshiftRight j).toNat.testBit 0 then 1 else 0 := by
    rw [← pc_bit]; simp
  rw [e2]
  have e3 : (x.toBitVec.sshiftRight j).toNat.testBit 0 = x.toBitVec.toNat.testBit j := by
    show (x.toBitVec.sshiftRight j).getLsbD 0 = x.toBitVec.getLsbD j
    rw [BitVec.getLsbD_sshiftRight]
    simp [hj]
  rw [e3]
  by_cases c : x.toBitVec.toNat.testBit j = true
  · rw [if_pos c]; rfl
  · rw [if_neg c]; rfl
theorem rb_0 {j : Nat} (x : Int64) (hj : j < 64) : (x >>> ((nI j).toInt64 &&& 63)) &&& 1 = 0 ↔ x.toBitVec.toNat.testBit j = false := by
  rw [rb_bit x hj, pc_bit]
  by_cases c : x.toBitVec.toNat.testBit j = true
  · rw [if_pos c, c]
    exact iff_of_false (by decide) (by decide)
  · rw [if_neg c]
    have : x.toBitVec.toNat.testBit j = false := by simpa using c
    rw [this]
    exact iff_of_true (by decide) rfl
theorem mc_6 (x : Int64) (hw : w ≤ 64) (v : xk_St) : ∀ (d j n : Nat), j + d = w → d < n → jb_Model_counted_6 fu n 2 x (nI w) (nI (pcN x.toBitVec.toNat j)) (nI j) v = jb_Model_counted_35 fu fu 2 x (nI w) (nI (pcN x.toBitVec.toNat w)) v := by
  intro d
  induction d with
  | zero =>
    intro j n hj hn
    obtain ⟨n, rfl⟩ : ∃ m, n = m + 1 := ⟨n - 1, by omega⟩
    have : j = w := by omega
    subst this
    unfold jb_Model_counted_6
    rw [xl_eq, if_pos (Int32.le_refl _)]
  | succ d ih =>
    intro j n hj hn
    obtain ⟨n, rfl⟩ : ∃ m, n = m + 1 := ⟨n - 1, by omega⟩
    unfold jb_Model_counted_6
    rw [xl_eq, if_neg (fun t => by have := (nI_leI (by omega) (by omega)).mp t; omega), if_pos rfl, xl_eq, xl_eq, rb_bit x (by omega), sb_nLi (by omega), nI_add, nI_1]
    exact ih (j + 1) n (by omega) (by omega)
theorem mc_66 (x : Int64) (hw : w ≤ 64) (v : xk_St) : ∀ (d j n : Nat), j + d = w → d < n → (∀ i, i < j → x.toBitVec.toNat.testBit i = false) → ∃ r, r ≤ w ∧ (∀ i, i < r → x.toBitVec.toNat.testBit i = false) ∧ (r < w → x.toBitVec.toNat.testBit r = true) ∧ jb_Model_counted_66 fu n 1 x (nI w) (nI j) v = some ((nI r).toInt64, v) := by
  intro d
  induction d with
  | zero =>
    intro j n hj hn h0
    obtain ⟨n, rfl⟩ : ∃ m, n = m + 1 := ⟨n - 1, by omega⟩
    have : j = w := by omega
    subst this
    refine ⟨j, Nat.le_refl _, h0, fun t => by omega, ?_⟩
    unfold jb_Model_counted_66
    rw [xl_eq, if_pos rfl, if_pos (Int32.le_refl _)]
  | succ d ih =>
    intro j n hj hn h0
    obtain ⟨n, rfl⟩ : ∃ m, n = m + 1 := ⟨n - 1, by omega⟩
    by_cases c : x.toBitVec.toNat.testBit j = false
    · obtain ⟨r, r1, r2, r3, r4⟩ := ih (j + 1) n (by omega) (by omega) (fun i hi => by
        by_cases q : i = j
        · rw [q]; exact c
        · exact h0 i (by omega))
      refine ⟨r, r1, r2, r3, ?_⟩
      unfold jb_Model_counted_66
      rw [xl_eq, if_pos rfl, if_neg (fun t => by have := (nI_leI (by omega) (by omega)).mp t; omega), if_pos ((rb_0 x (by omega)).mpr c), xl_eq, nI_1]
      exact r4
    · refine ⟨j, by omega, h0, fun _ => by simpa using c, ?_⟩
      unfold jb_Model_counted_66
      rw [xl_eq, if_pos rfl, if_neg (fun t => by have := (nI_leI (by omega) (by omega)).mp t; omega), if_neg (fun t => c ((rb_0 x (by omega)).mp t))]
theorem mc_35 (x : Int64) (hw : w ≤ 64) (v : xk_St) : ∀ (d j n : Nat), j + d = w → d < n → (∀ i, i < j → x.toBitVec.toNat.testBit (w - 1 - i) = false) → ∃ r, r ≤ w ∧ (∀ i, i < r → x.toBitVec.toNat.testBit (w - 1 - i) = false) ∧ (r < w → x.toBitVec.toNat.testBit (w - 1 - r) = true) ∧ jb_Model_counted_35 fu n 0 x (nI w) (nI j) v = jb_Model_counted_66 fu fu 0 x (nI w) (nI r) v := by
  intro d
  induction d with
  | zero =>
    intro j n hj hn h0
    obtain ⟨n, rfl⟩ : ∃ m, n = m + 1 := ⟨n - 1, by omega⟩
    have : j = w := by omega
    subst this
    refine ⟨j, Nat.le_refl _, h0, fun t => by omega, ?_⟩
    conv => lhs; unfold jb_Model_counted_35
    rw [xl_eq, if_pos rfl, if_pos (Int32.le_refl _)]
  | succ d ih =>
    intro j n hj hn h0
    obtain ⟨n, rfl⟩ : ∃ m, n = m + 1 := ⟨n - 1, by omega⟩
    have ei : nI w - 1 - nI j = nI (w - 1 - j) := by
      obtain ⟨m, rfl⟩ : ∃ m, w = m + 1 := ⟨w - 1, by omega⟩
      rw [nI_pred]
      exact pk_sub (by omega)
    by_cases c : x.toBitVec.toNat.testBit (w - 1 - j) = false
    · obtain ⟨r, r1, r2, r3, r4⟩ := ih (j + 1) n (by omega) (by omega) (fun i hi => by
        by_cases q : i = j
        · rw [q]; exact c
        · exact h0 i (by omega))
      refine ⟨r, r1, r2, r3, ?_⟩
      conv => lhs; unfold jb_Model_counted_35
      rw [xl_eq, if_pos rfl, if_neg (fun t => by have := (nI_leI (by omega) (by omega)).mp t; omega), ei, if_pos ((rb_0 x (by omega)).mpr c), xl_eq, nI_1]
      exact r4
    · refine ⟨j, by omega, h0, fun _ => by simpa using c, ?_⟩
      conv => lhs; unfold jb_Model_counted_35
      rw [xl_eq, if_pos rfl, if_neg (fun t => by have := (nI_leI (by omega) (by omega)).mp t; omega), ei, if_neg (fun t => c ((rb_0 x (by omega)).mp t))]
/-- what the reference counts -/
theorem mc_pop (hfu : 100 ≤ fu) (x : Int64) (hw : w ≤ 64) (v : xk_St) : fm_Model_counted fu 2 x (nI w) v = some ((nI (pcN x.toBitVec.toNat w)).toInt64, v) := by
  unfold fm_Model_counted
  have e := mc_6 (fu := fu) x hw v w 0 fu (by omega) (by omega)
  have e : jb_Model_counted_6 fu fu 2 x (nI w) 0 0 v = _ := e
  rw [e]
  obtain ⟨n, rfl⟩ : ∃ m, fu = m + 1 := ⟨fu - 1, by omega⟩
  unfold jb_Model_counted_35
  rw [xl_eq, if_neg (by decide)]
  unfold jb_Model_counted_66
  rw [xl_eq, if_neg (by decide)]
theorem mc_ctz (hfu : 100 ≤ fu) (x : Int64) (hw0 : 0 < w) (hw : w ≤ 64) : ∃ r, r ≤ w ∧ (∀ i, i < r → x.toBitVec.toNat.testBit i = false) ∧ (r < w → x.toBitVec.toNat.testBit r = true) ∧ ∀ v, fm_Model_counted fu 1 x (nI w) v = some ((nI r).toInt64, v) := by
  have key : ∀ v, ∃ r, r ≤ w ∧ (∀ i, i < r → x.toBitVec.toNat.testBit i = false) ∧ (r < w → x.toBitVec.toNat.testBit r = true) ∧ fm_Model_counted fu 1 x (nI w) v = some ((nI r).toInt64, v) := fun v => by
    obtain ⟨r, r1, r2, r3, r4⟩ := mc_66 (fu := fu) x hw v w 0 fu (by omega) (by omega) (fun i hi => absurd hi (Nat.not_lt_zero _))
    refine ⟨r, r1, r2, r3, ?_⟩
    have r4 : jb_Model_counted_66 fu fu 1 x (nI w) 0 v = _ := r4
    rw [← r4]
    obtain ⟨n, rfl⟩ : ∃ m, fu = m + 1 := ⟨fu - 1, by omega⟩
    unfold fm_Model_counted
    conv => lhs; unfold jb_Model_counted_6
    rw [xl_eq, if_neg (fun t => by have := (nI_leI (b := 0) (by omega) (by decide)).mp t; omega), if_neg (by decide)]
    conv => lhs; unfold jb_Model_counted_35
    rw [xl_eq, if_neg (by decide)]
  obtain ⟨r, r1, r2, r3, r4⟩ := key (fun _ => 0, fun _ => 0, fun _ _ => 0, fun _ _ => 0)
  refine ⟨r, r1, r2, r3, fun v => ?_⟩
  obtain ⟨s, s1, s2, s3, s4⟩ := key v
  have : s = r := by
    rcases Nat.lt_trichotomy s r with t | t | t
    · have a := r2 s t
      rw [s3 (by omega)] at a; cases a
    · exact t
    · have a := s2 r t
      rw [r3 (by omega)] at a; cases a
  rw [← this]; exact s4
theorem mc_clz (hfu : 100 ≤ fu) (x : Int64) (hw0 : 0 < w) (hw : w ≤ 64) : ∃ r, r ≤ w ∧ (∀ i, i < r → x.toBitVec.toNat.testBit (w - 1 - i) = false) ∧ (r < w → x.toBitVec.toNat.testBit (w - 1 - r) = true) ∧ ∀ v, fm_Model_counted fu 0 x (nI w) v = some ((nI r).toInt64, v) := by
  have key : ∀ v, ∃ r, r ≤ w ∧ (∀ i, i < r → x.toBitVec.toNat.testBit (w - 1 - i) = false) ∧ (r < w → x.toBitVec.toNat.testBit (w - 1 - r) = true) ∧ fm_Model_counted fu 0 x (nI w) v = some ((nI r).toInt64, v) := fun v => by
    obtain ⟨r, r1, r2, r3, r4⟩ := mc_35 (fu := fu) x hw v w 0 fu (by omega) (by omega) (fun i hi => absurd hi (Nat.not_lt_zero _))
    refine ⟨r, r1, r2, r3, ?_⟩
    have r4 : jb_Model_counted_35 fu fu 0 x (nI w) 0 v = _ := r4
    have e66 : jb_Model_counted_66 fu fu 0 x (nI w) (nI r) v = some ((nI r).toInt64, v) := by
      obtain ⟨n, rfl⟩ : ∃ m, fu = m + 1 := ⟨fu - 1, by omega⟩
      unfold jb_Model_counted_66
      rw [xl_eq, if_neg (by decide)]
    rw [e66] at r4
    rw [← r4]
    obtain ⟨n, rfl⟩ : ∃ m, fu = m + 1 := ⟨fu - 1, by omega⟩
    unfold fm_Model_counted
    conv => lhs; unfold jb_Model_counted_6
    rw [xl_eq, if_neg (fun t => by have := (nI_leI (b := 0) (by omega) (by decide)).mp t; omega), if_neg (by decide)]
  obtain ⟨r, r1, r2, r3, r4⟩ := key (fun _ => 0, fun _ => 0, fun _ _ => 0, fun _ _ => 0)
  refine ⟨r, r1, r2, r3, fun v => ?_⟩
  obtain ⟨s, s1, s2, s3, s4⟩ := key v
  have : s = r := by
    rcases Nat.lt_trichotomy s r with t | t | t
    · have a := r2 s t
      rw [s3 (by omega)] at a; cases a
    · exact t
    · have a := s2 r t
      rw [r3 (by omega)] at a; cases a
  rw [← this]; exact s4
end
