theorem ys_seq {α β : Type} {a : α} {u : xk_St} {f : α → xk_St → Option β} : xs_seq (some (a, u)) f = f a u := rfl
theorem ys_tryl {α β : Type} {a : α} {u : xk_St} {f : α → xk_St → Option ((β ⊕ Nat) × xk_St)} : xs_try (some (.inl a, u)) f = f a u := rfl
theorem ys_tryr {α β : Type} {k : Nat} {u : xk_St} {f : α → xk_St → Option ((β ⊕ Nat) × xk_St)} : xs_try (some (.inr k, u)) f = some (.inr k, u) := rfl
theorem yl_nl {a b : Int64} : ¬ a < b ↔ b ≤ a := by
  rw [Int64.lt_iff_toInt_lt, Int64.le_iff_toInt_le]; omega
theorem yl_nle {a b : Int64} : ¬ a ≤ b ↔ b < a := by
  rw [Int64.lt_iff_toInt_lt, Int64.le_iff_toInt_le]; omega
theorem yi_nl {a b : Int32} : ¬ a < b ↔ b ≤ a := by
  rw [Int32.lt_iff_toInt_lt, Int32.le_iff_toInt_le]; omega
theorem yi_nle {a b : Int32} : ¬ a ≤ b ↔ b < a := by
  rw [Int32.lt_iff_toInt_lt, Int32.le_iff_toInt_le]; omega
/-- the next group of an unsigned number -/
def yw_w (B : Nat → Int32) (p k : Nat) (v : Int64) : Int64 := v ||| (((yb_b B p &&& (127 : Int32)).toInt64) <<< ((nI (7 * k)).toInt64 &&& 63))
def yp_Ug (B : Nat → Int32) (lim : Nat) : Nat → Nat → Nat → Int64 → (Int64 × Nat) ⊕ Nat
  | 0, _, _, _ => .inr 0
  | d + 1, k, p, v => if lim ≤ p then .inr 0 else if (128 : Int32) ≤ yb_b B p then yp_Ug B lim d (k + 1) (p + 1) (yw_w B p k v) else if yw_w B p k v ≤ (4294967295 : Int64) then .inl (yw_w B p k v, p + 1) else .inr 0
/-- an unsigned number -/
def yp_U (B : Nat → Int32) (lim p : Nat) : (Int64 × Nat) ⊕ Nat := yp_Ug B lim 5 0 p 0
theorem yb_7 (k : Nat) : nI (7 * k) + 7 = nI (7 * (k + 1)) := by
  rw [show (7 : Int32) = nI 7 from rfl, nI_add]; rfl
theorem hh_Ug {B : Nat → Int32} {lim fu : Nat} : ∀ (d k p : Nat) (v : Int64) (n : Nat) (u : xk_St), k + d = 5 → d < n → yh_st B lim p u → yh_R u lim p (jb_Reader_readUnsigned_4 fu n v (nI (7 * k)) u) (yp_Ug B lim d k p v) := by
  intro d
  induction d with
  | zero =>
    intro k p v n u h1 h2 h
    obtain ⟨n, rfl⟩ : ∃ m, n = m + 1 := ⟨n - 1, by omega⟩
    obtain rfl : k = 5 := by omega
    unfold jb_Reader_readUnsigned_4 yp_Ug
    simp only [xs_let]
    rw [if_pos (show (35 : Int32) ≤ nI (7 * 5) by decide)]
    exact yh_no' h.2.1 h.2.2.2.1
  | succ d ih =>
    intro k p v n u h1 h2 h
    obtain ⟨n, rfl⟩ : ∃ m, n = m + 1 := ⟨n - 1, by omega⟩
    obtain ⟨g1, g2, g3, g4, g5⟩ := id h
    unfold jb_Reader_readUnsigned_4 yp_Ug
    simp only [xs_let]
    rw [if_neg (show ¬ (35 : Int32) ≤ nI (7 * k) from nI_ge (b := 35) (by omega) (by decide)), g2, g3]
    by_cases hc : lim ≤ p
    · rw [if_pos hc, if_pos (nI_le hc (by omega))]
      exact yh_no' g2 g4
    · rw [if_neg hc, if_neg (nI_ge (by omega) (by omega)), if_neg (nI_in (N := 8192) (by omega) (by decide)), nI_clamp (by omega), g1, nI_1]
      show yh_R u lim p (if (128 : Int32) ≤ yb_b B p then jb_Reader_readUnsigned_75 fu (jb_Reader_readUnsigned_4 fu n) (yw_w B p k v) (nI (7 * k)) (yb_b B p) (xs_I u 17 (nI (p + 1))) else if (4294967295 : Int64) < yw_w B p k v then jb_Reader_readUnsigned_75 fu (jb_Reader_readUnsigned_4 fu n) (yw_w B p k v) (nI (7 * k)) (yb_b B p) (xs_I u 17 (nI (p + 1))) else some (.inl (yw_w B p k v), xs_I u 17 (nI (p + 1)))) _
      by_cases h8 : (128 : Int32) ≤ yb_b B p
      · rw [if_pos h8, if_pos h8]
        unfold jb_Reader_readUnsigned_75
        rw [if_pos h8]
        simp only [xs_let]
        rw [yb_7]
        exact yh_le (Nat.le_succ p) (yh_base (ih (k + 1) (p + 1) _ n _ (by omega) (by omega) (yh_mv h (by omega))))
      · rw [if_neg h8, if_neg h8]
        by_cases h9 : yw_w B p k v ≤ 4294967295
        · rw [if_pos h9, if_neg (yl_nl.mpr h9)]
          exact yh_ok (by omega) (by omega)
        · rw [if_neg h9, if_pos (yl_nle.mp h9)]
          unfold jb_Reader_readUnsigned_75
          rw [if_neg h8]
          exact yh_no (by omega)
theorem hh_U {B : Nat → Int32} {lim p fu : Nat} {u : xk_St} (hfu : 20 ≤ fu) (h : yh_st B lim p u) : yh_R u lim p (fm_Reader_readUnsigned fu u) (yp_U B lim p) := hh_Ug 5 0 p 0 fu u rfl (by omega) h
theorem mm_65 {fu : Nat} {v : Int64} {u : xk_St} (h6 : u.1 6 = 0) : jb_Model_number_65 fu v u = some (v, u) := if_pos h6
theorem mx_65 {fu : Nat} {v : Int64} {u : xk_St} (h6 : ¬ u.1 6 = 0) : jb_Model_number_65 fu v u = some (0, u) := if_neg h6
theorem mx_60 {fu : Nat} {v : Int64} {u : xk_St} (h6 : ¬ u.1 6 = 0) : jb_Model_number_60 fu v u = some (0, u) := by
  unfold jb_Model_number_60
  rw [mm_fail1 h6]
  simp only [ys_seq]
  exact mx_65 h6
theorem mm_60 {fu : Nat} {v : Int64} {u : xk_St} (h6 : u.1 6 = 0) : jb_Model_number_60 fu v u = some (0, xs_I u 6 (-1)) := by
  unfold jb_Model_number_60
  rw [mm_fail0 h6]
  simp only [ys_seq]
  exact mx_65 (by rw [ys_Ig]; decide)
theorem mx_46 {fu : Nat} {v : Int64} {b : Int32} {u : xk_St} (h6 : ¬ u.1 6 = 0) : jb_Model_number_46 fu v b u = some (0, u) := by
  unfold jb_Model_number_46
  rw [mx_60 h6, mx_65 h6]
  split
  · rfl
  · split <;> rfl
theorem mm_9e {fu n : Nat} {v : Int64} {b c : Int32} {u : xk_St} (hb : b ≤ 127) : jb_Model_number_9 fu (n + 1) v b c u = jb_Model_number_46 fu v b u := by
  conv => lhs; unfold jb_Model_number_9
  simp only [xs_let]
  by_cases h : (5 : Int32) ≤ c
  · rw [if_pos h]
  · rw [if_neg h, if_pos hb]
theorem mx_num {fu : Nat} {u : xk_St} (hfu : 20 ≤ fu) (h6 : ¬ u.1 6 = 0) : fm_Model_number fu u = some (0, u) := by
  obtain ⟨n, rfl⟩ : ∃ m, fu = m + 2 := ⟨fu - 2, by omega⟩
  unfold fm_Model_number
  conv => lhs; unfold jb_Model_number_9
  simp only [xs_let]
  rw [if_neg (by decide), if_neg (by decide), mx_one_eq h6]
  simp only [ys_seq]
  rw [mm_9e (by decide), mx_46 h6]
theorem mm_Ug {B : Nat → Int32} {lim fu : Nat} : ∀ (d k p : Nat) (v : Int64) (n : Nat) (u : xk_St) (b : Int32), k + d = 5 → d + 1 < n → ym_st B lim p u → u.1 6 = 0 → (127 : Int32) < b → ym_R B u lim p (jb_Model_number_9 fu n v b (nI k) u) (yp_Ug B lim d k p v) := by
  intro d
  induction d with
  | zero =>
    intro k p v n u b h1 h2 h h6 hb
    obtain ⟨n, rfl⟩ : ∃ m, n = m + 1 := ⟨n - 1, by omega⟩
    obtain rfl : k = 5 := by omega
    unfold jb_Model_number_9 yp_Ug
    simp only [xs_let]
    rw [if_pos (show (5 : Int32) ≤ nI 5 by decide)]
    unfold jb_Model_number_46
    rw [if_pos hb, mm_60 h6]
    exact ym_no (yx_some (ym_I6 h) ys_Ig)
  | succ d ih =>
    intro k p v n u b h1 h2 h h6 hb
    obtain ⟨n, rfl⟩ : ∃ m, n = m + 2 := ⟨n - 2, by omega⟩
    obtain ⟨g1, g2, g3, g4, g5⟩ := id h
    conv => arg 5; unfold jb_Model_number_9
    unfold yp_Ug
    simp only [xs_let]
    rw [if_neg (show ¬ (5 : Int32) ≤ nI k from nI_ge (b := 5) (by omega) (by decide)), if_neg (yi_nle.mpr hb), mm_one_eq h h6]
    by_cases hc : lim ≤ p
    · rw [if_pos hc, if_pos hc]
      show ym_R B u lim p (jb_Model_number_9 fu (n + 1) _ 0 _ (xs_I u 6 (-1))) _
      rw [mm_9e (by decide), mx_46 (by rw [ys_Ig]; decide)]
      exact ym_no (yx_some (ym_I6 h) ys_Ig)
    · rw [if_neg hc, if_neg hc]
      have e7 : (7 : Int32) * nI k = nI (7 * k) := by rw [show (7 : Int32) = nI 7 from rfl, pk_mul]
      show ym_R B u lim p (jb_Model_number_9 fu (n + 1) (v ||| (((yb_b B p &&& (127 : Int32)).toInt64) <<< (((7 : Int32) * nI k).toInt64 &&& 63))) (yb_b B p) (nI k + 1) (xs_I u 4 (nI (p + 1)))) _
      rw [e7, nI_1]
      show ym_R B u lim p (jb_Model_number_9 fu (n + 1) (yw_w B p k v) (yb_b B p) (nI (k + 1)) (xs_I u 4 (nI (p + 1)))) _
      by_cases h8 : (128 : Int32) ≤ yb_b B p
      · rw [if_pos h8]
        refine ym_le (Nat.le_succ p) (ym_base (ih (k + 1) (p + 1) _ (n + 1) _ _ (by omega) (by omega) (ym_mv h (by omega)) h6 ?_))
        obtain ⟨j, hj, e⟩ := yb_n B p
        rw [e] at h8 ⊢
        have := (nI_leI (a := 128) (b := j) (by decide) (by omega)).mp h8
        exact (nI_ltI (a := 127) (b := j) (by decide) (by omega)).mpr (by omega)
      · rw [if_neg h8]
        have hle : yb_b B p ≤ 127 := by
          obtain ⟨j, hj, e⟩ := yb_n B p
          rw [e] at h8 ⊢
          have : ¬ 128 ≤ j := fun z => h8 ((nI_leI (a := 128) (b := j) (by decide) (by omega)).mpr z)
          exact (nI_leI (a := j) (b := 127) (by omega) (by decide)).mpr (by omega)
        rw [mm_9e hle]
        unfold jb_Model_number_46
        rw [if_neg (yi_nl.mpr hle)]
        by_cases h9 : yw_w B p k v ≤ 4294967295
        · rw [if_pos h9, if_pos h9, mm_65 (show (xs_I u 4 (nI (p + 1))).1 6 = 0 from h6)]
          exact ym_ok (by omega) (by omega)
        · rw [if_neg h9, if_neg h9, mm_60 (show (xs_I u 4 (nI (p + 1))).1 6 = 0 from h6)]
          exact ym_no (yx_some (ym_I6 (ym_mv h (by omega))) ys_Ig)
theorem mm_U {B : Nat → Int32} {lim p fu : Nat} {u : xk_St} (hfu : 20 ≤ fu) (h : ym_st B lim p u) (h6 : u.1 6 = 0) : ym_R B u lim p (fm_Model_number fu u) (yp_U B lim p) := mm_Ug 5 0 p 0 fu u 128 rfl (by omega) h h6 (by decide)
