theorem q1_l1 (x : Int32) : x.toInt64 < 1 ↔ x < 1 := by
  rw [Int64.lt_iff_toInt_lt, Int32.lt_iff_toInt_lt, Int32.toInt_toInt64]; rfl
theorem q1_l8 (x : Int32) : 8 < x.toInt64 ↔ ¬ x ≤ 8 := by
  rw [Int64.lt_iff_toInt_lt, Int32.le_iff_toInt_le, Int32.toInt_toInt64]
  show (8 : Int) < _ ↔ ¬ _ ≤ (8 : Int)
  omega
theorem q1_n8 {x : Int32} (h1 : ¬ x < 1) (h2 : x ≤ 8) : ∃ N : Nat, 1 ≤ N ∧ N ≤ 8 ∧ x = nI N := by
  rw [Int32.lt_iff_toInt_lt] at h1
  have h1 : ¬ x.toInt < 1 := h1
  have h0 : ¬ x < 0 := by
    rw [Int32.lt_iff_toInt_lt]
    show ¬ x.toInt < 0
    omega
  obtain ⟨j, hj, e⟩ := nI_of2 (M := 8) (n := 8) (by decide) h0 h2
  refine ⟨j, ?_, hj, e⟩
  rw [e, nI_toInt (by omega)] at h1
  omega
theorem q1_hf (fu : Nat) (b2 : Int64) : ∀ (d n k : Nat) (u : xk_St), k + d ≤ 8 → d < n → u.1 0 = 0 → ∃ u', jb_House_feed_42 fu n (nI (k + d)) b2 (nI k) u = some (.inl (nI (k + d)), u') := by
  intro d
  induction d with
  | zero =>
    intro n k u h1 h2 h3
    obtain ⟨n, rfl⟩ : ∃ q, n = q + 1 := ⟨n - 1, by omega⟩
    unfold jb_House_feed_42
    simp only [xs_let, Nat.add_zero]
    rw [if_pos (Int32.le_refl (nI k))]
    exact ⟨xs_I u 0 (u.1 0 + nI k), by simp [xs_I, va_up, h3]⟩
  | succ d ih =>
    intro n k u h1 h2 h3
    obtain ⟨n, rfl⟩ : ∃ q, n = q + 1 := ⟨n - 1, by omega⟩
    unfold jb_House_feed_42
    simp only [xs_let]
    rw [if_neg (by rw [nI_leI (by omega) (by omega)]; omega), h3, Int32.zero_add, if_neg (nI_in (N := 8192) (by omega) (by omega)), nI_1, show k + (d + 1) = k + 1 + d by omega]
    exact ih n (k + 1) _ (by omega) (by omega) h3
theorem q1_mf (fu : Nat) (b2 : Int64) : ∀ (d n k : Nat) (u : xk_St), k + d ≤ 8 → d < n → u.1 1 = 0 → ∃ u', jb_Model_feed_55 fu n (nI (k + d)) b2 (nI k) u = some (nI (k + d), u') ∧ u'.1 0 = u.1 0 := by
  intro d
  induction d with
  | zero =>
    intro n k u h1 h2 h3
    obtain ⟨n, rfl⟩ : ∃ q, n = q + 1 := ⟨n - 1, by omega⟩
    unfold jb_Model_feed_55
    simp only [xs_let, Nat.add_zero]
    rw [if_pos (Int32.le_refl (nI k))]
    exact ⟨xs_I u 1 (u.1 1 + nI k), by simp [xs_I, va_up, h3], by simp [xs_I, va_up]⟩
  | succ d ih =>
    intro n k u h1 h2 h3
    obtain ⟨n, rfl⟩ : ∃ q, n = q + 1 := ⟨n - 1, by omega⟩
    unfold jb_Model_feed_55
    simp only [xs_let]
    rw [if_neg (by rw [nI_leI (by omega) (by omega)]; omega), h3, Int32.zero_add, if_neg (nI_in (N := 8192) (by omega) (by omega)), nI_1, show k + (d + 1) = k + 1 + d by omega]
    exact ih n (k + 1) _ (by omega) (by omega) h3
theorem q1_feed {fu : Nat} (hfu : 3000 ≤ fu) (a1 : Int32) (v : Int64) : ∃ (k : Int32) (b : Int32) (vh vm : xk_St), fm_Law_feed fu a1 v xl_u0 = some (k, vh) ∧ fm_Model_feed fu a1 v xl_u0 = some (b, vm) ∧ vm.1 0 = k ∧ (k = 0 → vh.2.2.2 13 0 = b.toInt64) ∧ True := by
  by_cases h1 : a1 < 1
  · refine ⟨1, 0, xl_u0, xs_I xl_u0 0 1, ?_, ?_, rfl, fun h => absurd h (by decide), trivial⟩
    · simp [fm_Law_feed, fm_House_feed, h1, xs_cat]
    · simp [fm_Model_feed, fm_Model_in, (q1_l1 a1).mpr h1, xs_seq, jb_Model_feed_18, fm_Model_fails, xs_let]
  · by_cases h2 : a1 ≤ 8
    · obtain ⟨N, hN1, hN2, rfl⟩ := q1_n8 h1 h2
      obtain ⟨uh, e1⟩ := q1_hf fu v N fu 0 xl_u0 (by omega) (by omega) rfl
      obtain ⟨um, e2, e3⟩ := q1_mf fu v N fu 0 (xs_I (xs_I xl_u0 0 0) 0 0) (by omega) (by omega) rfl
      rw [Nat.zero_add] at e1 e2
      have e1 : jb_House_feed_42 fu fu (nI N) v 0 xl_u0 = some (.inl (nI N), uh) := e1
      have e2 : jb_Model_feed_55 fu fu (nI N) v 0 (xs_I (xs_I xl_u0 0 0) 0 0) = some (nI N, um) := e2
      have h81 : (0 : Int32) + nI N ≤ 8192 := by
        rw [Int32.zero_add]
        exact (nI_leI (a := N) (b := 8192) (by omega) (by omega)).mpr (by omega)
      have h7 : ¬ 8 < (nI N).toInt64 := fun h => (q1_l8 _).mp h h2
      refine ⟨0, nI N, xs_B uh 13 0 (nI N).toInt64, um, ?_, ?_, ?_, fun _ => ?_, trivial⟩
      · have h80 : xl_u0.1 0 + nI N ≤ 8192 := h81
        simp [fm_Law_feed, fm_House_feed, h1, h2, h80, e1, xs_cat, xs_let]
      · have h80 : (xs_I xl_u0 0 0).1 1 + nI N ≤ 8192 := h81
        simp [fm_Model_feed, fm_Model_in, mt (q1_l1 _).mp h1, h7, xs_seq, jb_Model_feed_18, jb_Model_feed_43, fm_Model_fails, xs_let, h80, e2]
      · rw [e3]; rfl
      · simp [xs_B, va_up, vp_updL]
    · refine ⟨1, 0, xl_u0, xs_I xl_u0 0 1, ?_, ?_, rfl, fun h => absurd h (by decide), trivial⟩
      · simp [fm_Law_feed, fm_House_feed, h1, h2, xs_cat]
      · simp [fm_Model_feed, fm_Model_in, mt (q1_l1 a1).mp h1, (q1_l8 a1).mpr h2, xs_seq, jb_Model_feed_18, fm_Model_fails, xs_let]
theorem q1_give (v : Int64) : ∃ (k : Int32) (b : Int32) (vh vm : xk_St), fm_Law_give v xl_u0 = some (k, vh) ∧ fm_Model_give v xl_u0 = some (b, vm) ∧ vm.1 0 = k ∧ (k = 0 → vh.2.2.2 13 0 = b.toInt64) ∧ True := by
  refine ⟨0, 1, xs_B (xs_I (xs_B xl_u0 0 0 v) 1 1) 13 0 1, xs_I (xs_B (xs_I xl_u0 0 0) 0 0 v) 2 1, ?_, ?_, rfl, fun _ => rfl, trivial⟩
  · rfl
  · rfl
theorem q1_call {fu : Nat} (a1 : Int32) : ∃ (k : Int32) (b : Int32) (vh vm : xk_St), fm_Law_call fu a1 xl_u0 = some (k, vh) ∧ fm_Model_call fu a1 xl_u0 = some (b, vm) ∧ vm.1 0 = k ∧ (k = 0 → vh.2.2.2 13 0 = b.toInt64) ∧ True := by
  by_cases h1 : 0 ≤ a1
  · refine ⟨0, -1, xs_B (xs_I (xs_I (xs_I xl_u0 0 0) 1 0) 2 0) 13 0 (-1), xs_I (xs_I (xs_I (xs_I xl_u0 0 0) 1 0) 2 0) 31 0, ?_, ?_, rfl, fun _ => rfl, trivial⟩
    · unfold fm_Law_call fm_House_call
      rw [if_pos h1]
      rfl
    · unfold fm_Model_call
      rw [if_pos h1]
      rfl
  · refine ⟨1, 0, xl_u0, xs_I xl_u0 0 1, ?_, ?_, rfl, fun h => absurd h (by decide), trivial⟩
    · unfold fm_Law_call fm_House_call
      rw [if_neg h1]
      rfl
    · unfold fm_Model_call
      rw [if_neg h1]
      rfl
theorem q1_result (a1 : Int32) : ∃ (k : Int32) (b : Int64) (vh vm : xk_St), fm_Law_result a1 xl_u0 = some (k, vh) ∧ fm_Model_result a1 xl_u0 = some (b, vm) ∧ vm.1 0 = k ∧ (k = 0 → vh.2.2.2 13 0 = b) ∧ True := by
  refine ⟨1, 0, xl_u0, xs_I xl_u0 0 1, ?_, ?_, rfl, fun h => absurd h (by decide), trivial⟩
  · unfold fm_Law_result fm_House_result
    by_cases h1 : a1 < 0
    · rw [if_pos h1]; rfl
    · rw [if_neg h1, if_neg (show ¬ a1 < xl_u0.1 2 from h1)]; rfl
  · unfold fm_Model_result
    by_cases h1 : a1 < 0
    · rw [if_pos h1]; rfl
    · rw [if_neg h1, if_neg (show ¬ a1 < xl_u0.1 31 from h1)]; rfl
theorem q1_global (a1 : Int32) : ∃ (k : Int32) (b : Int64) (vh vm : xk_St), fm_Law_global a1 xl_u0 = some (k, vh) ∧ fm_Model_global a1 xl_u0 = some (b, vm) ∧ vm.1 0 = k ∧ (k = 0 → vh.2.2.2 13 0 = b) ∧ True := by
  refine ⟨1, 0, xl_u0, xs_I xl_u0 0 1, ?_, ?_, rfl, fun h => absurd h (by decide), trivial⟩
  · rfl
  · rfl
theorem q1_at {fu : Nat} (a1 : Int32) : ∃ (k : Int32) (b : Int32) (vh vm : xk_St), fm_Law_at fu a1 xl_u0 = some (k, vh) ∧ fm_Model_at a1 xl_u0 = some (b, vm) ∧ vm.1 0 = k ∧ (k = 0 → vh.2.2.2 13 0 = b.toInt64) ∧ True := by
  refine ⟨1, 0, xl_u0, xs_I xl_u0 0 1, ?_, ?_, rfl, fun h => absurd h (by decide), trivial⟩
  · rfl
  · rfl
theorem q1_look {fu : Nat} (a1 : Int32) : ∃ (k : Int32) (b : Int32) (vh vm : xk_St), fm_Law_look fu a1 xl_u0 = some (k, vh) ∧ fm_Model_look fu a1 xl_u0 = some (b, vm) ∧ vm.1 0 = k ∧ (k = 0 → vh.2.2.2 13 0 = b.toInt64) ∧ True := by
  by_cases h1 : a1 < 0
  · refine ⟨1, 0, xl_u0, xs_I xl_u0 0 1, ?_, ?_, rfl, fun h => absurd h (by decide), trivial⟩
    · unfold fm_Law_look fm_House_look
      rw [if_pos h1]; rfl
    · unfold fm_Model_look
      rw [if_pos h1]; rfl
  · by_cases h2 : a1 ≤ 10
    · refine ⟨0, 0, xs_B xl_u0 13 0 0, xs_I xl_u0 0 0, ?_, ?_, rfl, fun _ => rfl, trivial⟩
      · unfold fm_Law_look fm_House_look
        rw [if_neg h1, if_pos h2]
        by_cases h3 : a1 = 8
        · rw [if_pos h3]; rfl
        · rw [if_neg h3]
          by_cases h4 : a1 = 9
          · rw [if_pos h4]; rfl
          · rw [if_neg h4]; rfl
      · unfold fm_Model_look
        rw [if_neg h1, if_pos h2]
        show (if a1 = 8 then _ else _) = _
        by_cases h3 : a1 = 8
        · rw [if_pos h3]; rfl
        · rw [if_neg h3]
          by_cases h4 : a1 = 9
          · rw [if_pos h4]; rfl
          · rw [if_neg h4]; rfl
    · refine ⟨1, 0, xl_u0, xs_I xl_u0 0 1, ?_, ?_, rfl, fun h => absurd h (by decide), trivial⟩
      · unfold fm_Law_look fm_House_look
        rw [if_neg h1, if_neg h2]; rfl
      · unfold fm_Model_look
        rw [if_neg h1, if_neg h2]; rfl
