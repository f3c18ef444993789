theorem q1_if {α : Type} {P : Prop} {o : Option α} (h : P) : xs_if P o = o := if_pos h
theorem q1_hc (fu : Nat) : ∀ (d n k : Nat) (u : xk_St), k + d = 2000 → d < n → ∃ u', jb_Heap_clear_27 fu n (nI k) u = some ((), u') ∧ u'.1 = u.1 := by
  intro d
  induction d with
  | zero =>
    intro n k u h1 h2
    obtain ⟨n, rfl⟩ : ∃ q, n = q + 1 := ⟨n - 1, by omega⟩
    obtain rfl : k = 2000 := by omega
    unfold jb_Heap_clear_27
    simp only [xs_let]
    rw [if_pos (show (2000 : Int32) ≤ nI 2000 by decide)]
    exact ⟨u, rfl, rfl⟩
  | succ d ih =>
    intro n k u h1 h2
    obtain ⟨n, rfl⟩ : ∃ q, n = q + 1 := ⟨n - 1, by omega⟩
    unfold jb_Heap_clear_27
    simp only [xs_let]
    rw [if_neg (show ¬ (2000 : Int32) ≤ nI k from nI_ge (b := 2000) (by omega) (by omega)), if_neg (nI_in (N := 2000) (by omega) (by omega)), nI_1]
    obtain ⟨u', e1, e2⟩ := ih n (k + 1) (xs_A u 44 (nI k).toNatClampNeg (2000 - nI k)) (by omega) (by omega)
    exact ⟨u', e1, e2⟩
theorem q1_heap {fu : Nat} (hfu : 3000 ≤ fu) (u : xk_St) (h : u.1 30 = 0) : ∃ u', fm_Heap_clear fu u = some ((), u') ∧ u'.1 33 = u.1 33 := by
  unfold fm_Heap_clear
  simp only [xs_let]
  rw [if_neg (show ¬ (2000 : Int32) ≤ (xs_I u 32 0).1 30 by simp [xs_I, va_up, h])]
  obtain ⟨u', e1, e2⟩ := q1_hc fu 2000 fu 0 (xs_I (xs_I u 32 0) 30 2000) (by omega) (by omega)
  exact ⟨u', e1, by rw [e2]; rfl⟩
theorem q1_mem {fu : Nat} (hfu : 3000 ≤ fu) (u : xk_St) (h : u.1 33 = 0) : ∃ u', fm_Memory_clear fu u = some ((), u') := by
  obtain ⟨n, rfl⟩ : ∃ q, fu = q + 1 := ⟨fu - 1, by omega⟩
  have e0 : (4096 : Int32) * u.1 33 = 0 := by rw [h]; decide
  refine ⟨xs_I (xs_I u 33 0) 34 0, ?_⟩
  unfold fm_Memory_clear fm_Arrays_fill_ABIIB__h78 fm_Arrays_rangeCheck__h
  rw [e0]
  unfold jb_Arrays_fill_ABIIB__h78_10
  rfl
theorem q1_read {fu : Nat} (hfu : 3000 ≤ fu) (u : xk_St) : ∃ u', fm_Reader_readModule fu 0 u = some (.inr 0, u') := by
  obtain ⟨n, rfl⟩ : ∃ q, fu = q + 1 := ⟨fu - 1, by omega⟩
  unfold fm_Reader_readModule
  rw [if_neg (by decide)]
  have hp : ∀ i, i < (0 : Int32).toNatClampNeg → fits .byte (.int (u.2.2.1 0 ((0 : Int32).toNatClampNeg + i))) = true := fun i hi => absurd (show i < 0 from hi) (Nat.not_lt_zero i)
  rw [q1_if hp]
  simp only [xs_let]
  unfold jb_Reader_readModule_23
  exact ⟨_, rfl⟩
theorem q1_hload {fu : Nat} (hfu : 3000 ≤ fu) : ∃ vh, fm_House_load fu xl_u0 = some (-1, vh) := by
  unfold fm_House_load
  simp only [xs_let]
  obtain ⟨u1, e1⟩ : ∃ u1, fm_Mod_clear (xs_I (xs_I (xs_I (xs_I xl_u0 0 0) 2 0) 3 0) 4 0) = some ((), u1) ∧ u1.1 30 = 0 ∧ u1.1 33 = 0 := ⟨_, rfl, rfl, rfl⟩
  rw [e1.1]
  simp only [xs_seq]
  obtain ⟨u2, e2, e3⟩ := q1_heap hfu (xs_I (xs_I u1 28 0) 29 0) (show u1.1 30 = 0 from e1.2.1)
  obtain ⟨u3, e4⟩ := q1_mem hfu u2 (by rw [e3]; exact e1.2.2)
  have e5 : fm_Machine_clear fu u1 = some ((), u3) := by
    unfold fm_Machine_clear
    simp only [xs_let, e2, xs_seq, e4]
  rw [e5]
  obtain ⟨u4, e6⟩ := q1_read hfu u3
  have e6 : fm_Reader_readModule fu (xl_u0.1 0) u3 = some (.inr 0, u4) := e6
  simp only [e6, xs_cat]
  exact ⟨u4, rfl⟩
theorem q1_needs (x : Int32) (u : xk_St) (h4 : u.1 4 = 0) (h5 : u.1 5 = 0) (h6 : u.1 6 = 0 ∨ u.1 6 = -1) : ∃ u', fm_Model_needs x u = some ((), u') ∧ u'.1 6 = -1 ∧ u'.1 4 = 0 ∧ u'.1 5 = 0 ∧ u'.1 0 = u.1 0 := by
  have key : ∀ v : xk_St, v.1 4 = 0 → v.1 5 = 0 → (v.1 6 = 0 ∨ v.1 6 = -1) → ∃ v', fm_Model_fail (-1) v = some ((), v') ∧ v'.1 6 = -1 ∧ v'.1 4 = 0 ∧ v'.1 5 = 0 ∧ v'.1 0 = v.1 0 := by
    intro v k4 k5 k6
    unfold fm_Model_fail
    simp only [xs_let]
    rcases k6 with k6 | k6
    · rw [if_pos k6]
      exact ⟨_, rfl, rfl, k4, k5, rfl⟩
    · rw [if_neg (by rw [k6]; decide)]
      exact ⟨_, rfl, k6, k4, k5, rfl⟩
  obtain ⟨v1, a1, a2, a3, a4, a5⟩ := key u h4 h5 h6
  have e1 : fm_Model_one u = some (0, v1) := by
    unfold fm_Model_one
    have e2 : jb_Model_one_18 u = some (0, v1) := by
      unfold jb_Model_one_18
      rw [a1]
      rfl
    by_cases h : u.1 6 = 0
    · rw [if_pos h, if_neg (by rw [h4, h5]; decide)]; exact e2
    · rw [if_neg h]; exact e2
  unfold fm_Model_needs
  rw [e1]
  simp only [xs_seq]
  by_cases hx : (0 : Int32) = x
  · rw [if_pos hx]
    exact ⟨v1, rfl, a2, a3, a4, a5⟩
  · rw [if_neg hx]
    obtain ⟨v2, b1, b2, b3, b4, b5⟩ := key v1 a3 a4 (Or.inr a2)
    rw [b1]
    exact ⟨v2, rfl, b2, b3, b4, by rw [b5, a5]⟩
theorem q1_magic (x : Int32) (u : xk_St) : ∃ r, fm_Model_magic x u = some (r, u) := by
  unfold fm_Model_magic
  split
  · exact ⟨_, rfl⟩
  · split
    · exact ⟨_, rfl⟩
    · split
      · exact ⟨_, rfl⟩
      · split
        · exact ⟨_, rfl⟩
        · exact ⟨_, rfl⟩
theorem q1_w41 (fu : Nat) (hfu : 0 < fu) : ∀ (d n k : Nat) (u : xk_St), k + d = 8 → d < n → u.1 4 = 0 → u.1 5 = 0 → (u.1 6 = 0 ∨ u.1 6 = -1) → (d = 0 → u.1 6 = -1) → ∃ u', jb_Model_walk_41 fu n (nI k) u = some ((), u') ∧ u'.1 6 = -1 ∧ u'.1 0 = u.1 0 := by
  intro d
  induction d with
  | zero =>
    intro n k u h1 h2 h4 h5 h6 h7
    obtain ⟨n, rfl⟩ : ∃ q, n = q + 1 := ⟨n - 1, by omega⟩
    obtain ⟨f, rfl⟩ : ∃ q, fu = q + 1 := ⟨fu - 1, by omega⟩
    obtain rfl : k = 8 := by omega
    unfold jb_Model_walk_41
    simp only [xs_let]
    rw [if_pos (show (8 : Int32) ≤ nI 8 by decide)]
    unfold jb_Model_walk_63
    simp only [xs_let]
    rw [if_neg (by rw [h7 rfl]; decide)]
    exact ⟨u, rfl, h7 rfl, rfl⟩
  | succ d ih =>
    intro n k u h1 h2 h4 h5 h6 h7
    obtain ⟨n, rfl⟩ : ∃ q, n = q + 1 := ⟨n - 1, by omega⟩
    unfold jb_Model_walk_41
    simp only [xs_let]
    rw [if_neg (show ¬ (8 : Int32) ≤ nI k from nI_ge (b := 8) (by omega) (by omega))]
    obtain ⟨r, e1⟩ := q1_magic (nI k) u
    obtain ⟨v, a1, a2, a3, a4, a5⟩ := q1_needs r u h4 h5 h6
    rw [e1]
    simp only [xs_seq, a1]
    rw [nI_1]
    obtain ⟨u', c1, c2, c3⟩ := ih n (k + 1) v (by omega) (by omega) a3 a4 (Or.inr a2) (fun _ => a2)
    exact ⟨u', c1, c2, by rw [c3, a5]⟩
theorem q1_w20 (fu : Nat) : ∀ (d n k : Nat) (u : xk_St), k + d = 12 → d < n → ∃ u', jb_Model_walk_20 fu n (nI k) u = jb_Model_walk_41 fu fu 0 u' ∧ u'.1 = u.1 := by
  intro d
  induction d with
  | zero =>
    intro n k u h1 h2
    obtain ⟨n, rfl⟩ : ∃ q, n = q + 1 := ⟨n - 1, by omega⟩
    obtain rfl : k = 12 := by omega
    unfold jb_Model_walk_20
    simp only [xs_let]
    rw [if_pos (show (12 : Int32) ≤ nI 12 by decide)]
    exact ⟨u, rfl, rfl⟩
  | succ d ih =>
    intro n k u h1 h2
    obtain ⟨n, rfl⟩ : ∃ q, n = q + 1 := ⟨n - 1, by omega⟩
    unfold jb_Model_walk_20
    simp only [xs_let]
    rw [if_neg (show ¬ (12 : Int32) ≤ nI k from nI_ge (b := 12) (by omega) (by omega)), if_neg (nI_in (N := 12) (by omega) (by omega)), nI_1]
    obtain ⟨u', e1, e2⟩ := ih n (k + 1) (xs_A u 2 (nI k).toNatClampNeg (-1)) (by omega) (by omega)
    exact ⟨u', e1, e2⟩
theorem q1_mload {fu : Nat} (hfu : 3000 ≤ fu) : ∃ vm, fm_Model_load fu xl_u0 = some (-1, vm) := by
  have hw : ∀ u : xk_St, u.1 3 = 0 → ∃ u', fm_Model_walk fu u = some ((), u') ∧ u'.1 6 = -1 := by
    intro u h3
    unfold fm_Model_walk
    simp only [xs_let]
    obtain ⟨v, e1, e2⟩ := q1_w20 fu 12 fu 0 (xs_I (xs_I (xs_I u 6 0) 4 0) 5 ((xs_I (xs_I u 6 0) 4 0).1 3)) (by omega) (by omega)
    obtain ⟨w, c1, c2, -⟩ := q1_w41 fu (by omega) 8 fu 0 v (by omega) (by omega) (by rw [e2]; rfl) (by rw [e2]; exact h3) (Or.inl (by rw [e2]; rfl)) (fun h => absurd h (by decide))
    refine ⟨w, ?_, c2⟩
    exact e1.trans c1
  obtain ⟨f, rfl⟩ : ∃ q, fu = q + 1 := ⟨fu - 1, by omega⟩
  unfold fm_Model_load
  simp only [xs_let]
  unfold jb_Model_load_15
  simp only [xs_let]
  rw [if_pos (show (xs_I (xs_I xl_u0 0 0) 3 ((xs_I xl_u0 0 0).1 1)).1 3 ≤ 0 by decide)]
  obtain ⟨u', e1, e2⟩ := hw (xs_I (xs_I (xs_I (xs_I (xs_I (xs_I xl_u0 0 0) 3 ((xs_I xl_u0 0 0).1 1)) 1 0) 25 0) 31 0) 30 0) rfl
  rw [e1]
  simp only [xs_seq]
  rw [if_neg (by rw [e2]; decide), e2]
  exact ⟨u', rfl⟩
/-- the first call, whatever it is -/
theorem q1_ok {fu : Nat} (hfu : 3000 ≤ fu) (a0 a1 a2 a3 : Int32) : xl_ok fu (fun _ _ => True) a0 a1 a2 a3 xl_u0 xl_u0 := by
  refine ⟨fun _ => q1_feed hfu a1 _, fun _ => ?_, fun _ => q1_give _, fun _ => q1_call a1, fun _ => q1_result a1, fun _ => q1_global a1, fun _ => q1_at a1, fun _ => q1_look a1⟩
  obtain ⟨vh, e1⟩ := q1_hload hfu
  obtain ⟨vm, e2⟩ := q1_mload hfu
  exact ⟨-1, vh, vm, e1, e2, trivial⟩
