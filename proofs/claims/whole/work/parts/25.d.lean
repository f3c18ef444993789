/-- the next group, of numbers -/
theorem yw_lN {B : Nat → Int32} {p k m : Nat} (hk : k ≤ 8) (hm : m < 2 ^ (7 * k)) : ∃ j : Nat, j < 128 ∧ yb_b B p &&& (127 : Int32) = nI j ∧ yw_w B p k (lN m) = lN (m + j * 2 ^ (7 * k)) ∧ m + j * 2 ^ (7 * k) < 2 ^ (7 * (k + 1)) := by
  obtain ⟨j, hj, e⟩ := pk_andE (yb_b B p) (m := 127) 7 rfl
  have hj' : j < 128 := hj
  have hq : (2 : Nat) ^ (7 * (k + 1)) = 128 * 2 ^ (7 * k) := by rw [Nat.mul_succ, Nat.pow_add, Nat.mul_comm]
  have hsum : m + j * 2 ^ (7 * k) < 2 ^ (7 * (k + 1)) := by
    have : j * 2 ^ (7 * k) + 2 ^ (7 * k) ≤ 128 * 2 ^ (7 * k) := by
      have := Nat.mul_le_mul_right (2 ^ (7 * k)) (show j + 1 ≤ 128 by omega)
      rw [Nat.add_mul, Nat.one_mul] at this
      exact this
    omega
  have h63 : (2 : Nat) ^ (7 * (k + 1)) ≤ 2 ^ 63 := Nat.pow_le_pow_right (by decide) (by omega)
  refine ⟨j, hj', e, ?_, hsum⟩
  unfold yw_w
  rw [e, nI_l (by omega), wb_shl j (by omega), g_or' (k := 7 * k) rfl hm (by omega)]
/-- the end of a signed number: its groups v, the last of them b, the place of that is 7 * k -/
def yp_Se (w k : Nat) (b : Int32) (v : Int64) (q : Nat) : (Int64 × Nat) ⊕ Nat :=
  if k = 9 then (if b = 0 ∨ b = 127 then .inl (v, q) else .inr 0)
  else if ((v <<< ((nI (57 - 7 * k)).toInt64 &&& 63)) >>> ((nI (57 - 7 * k)).toInt64 &&& 63)) >>> ((nI (w - 1)).toInt64 &&& 63) = 0 ∨ ((v <<< ((nI (57 - 7 * k)).toInt64 &&& 63)) >>> ((nI (57 - 7 * k)).toInt64 &&& 63)) >>> ((nI (w - 1)).toInt64 &&& 63) = -1
    then .inl ((v <<< ((nI (57 - 7 * k)).toInt64 &&& 63)) >>> ((nI (57 - 7 * k)).toInt64 &&& 63), q) else .inr 0
def yp_Sg (B : Nat → Int32) (lim w : Nat) : Nat → Nat → Nat → Int64 → (Int64 × Nat) ⊕ Nat
  | 0, _, _, _ => .inr 0
  | d + 1, k, p, v => if w ≤ 7 * k then .inr 0 else if lim ≤ p then .inr 0 else if (128 : Int32) ≤ yb_b B p then yp_Sg B lim w d (k + 1) (p + 1) (yw_w B p k v) else yp_Se w k (yb_b B p) (yw_w B p k v) (p + 1)
/-- a signed number of w bits -/
def yp_S (B : Nat → Int32) (lim w p : Nat) : (Int64 × Nat) ⊕ Nat := yp_Sg B lim w 11 0 p 0
theorem yz_0 (x : Int64) : (x <<< ((0 : Int32).toInt64 &&& 63)) >>> ((0 : Int32).toInt64 &&& 63) = x := by
  rw [yz_i, show (0 : Int32) = nI (64 - 64) from rfl, yz_ext x (by decide) (by decide)]
  refine Int.bmod_eq_of_le_mul_two ?_ ?_
  · have := x.le_toInt
    have e3 : ((2 ^ 64 : Nat) : Int) = 18446744073709551616 := rfl
    rw [e3]; omega
  · have := x.toInt_lt
    have e3 : ((2 ^ 64 : Nat) : Int) = 18446744073709551616 := rfl
    rw [e3]; omega
theorem yz_25 : ∀ j, j < 128 → (((((nI j <<< ((25 : Int32) &&& 31)) >>> ((25 : Int32) &&& 31)).toInt64 = (0 : Int64)) ↔ nI j = 0) ∧ ((((nI j <<< ((25 : Int32) &&& 31)) >>> ((25 : Int32) &&& 31)).toInt64 = (-1 : Int64)) ↔ nI j = 127)) := by decide +kernel
theorem yb_lo {B : Nat → Int32} {p : Nat} (h : ¬ (128 : Int32) ≤ yb_b B p) : ∃ j : Nat, j < 128 ∧ yb_b B p = nI j ∧ yb_b B p &&& (127 : Int32) = nI j := by
  obtain ⟨j, hj, e⟩ := yb_n B p
  have h1 : j < 128 := by
    have : ¬ 128 ≤ j := fun z => h (by rw [e]; exact (nI_leI (a := 128) (b := j) (by decide) (by omega)).mpr z)
    omega
  refine ⟨j, h1, e, ?_⟩
  rw [e, pk_andN (by omega) 7 rfl, Nat.mod_eq_of_lt (by omega)]
theorem hh_83 {fu w k q : Nat} {b : Int32} {v : Int64} {u : xk_St} {lim p : Nat} (hb : ∃ j : Nat, j < 128 ∧ b = nI j) (hk : k ≤ 9) (hw : 0 < w ∧ w ≤ 64) (hq : p ≤ q ∧ q ≤ lim) (h17 : u.1 17 = nI q) :
    yh_R u lim p (if (57 : Int32) ≤ nI (7 * k) then (jb_Reader_readSigned_83 fu (nI w) v (nI (7 * k)) b (0 : Int32) u) else (jb_Reader_readSigned_83 fu (nI w) v (nI (7 * k)) b ((57 : Int32) - nI (7 * k)) u)) (yp_Se w k b v q) := by
  obtain ⟨j, hj, rfl⟩ := hb
  have hw1 : nI w - (1 : Int32) = nI (w - 1) := pk_sub (b := 1) (by omega)
  by_cases h9 : k = 9
  · subst h9
    unfold yp_Se
    rw [if_pos (show (57 : Int32) ≤ nI (7 * 9) by decide), if_pos rfl]
    unfold jb_Reader_readSigned_83
    simp only [xs_let]
    rw [yz_0, if_pos (show nI (7 * 9) = (63 : Int32) by decide)]
    unfold jb_Reader_readSigned_117
    obtain ⟨c1, c2⟩ := yz_25 j hj
    by_cases d1 : nI j = 0
    · rw [if_pos (c1.mpr d1), if_pos (Or.inl d1)]
      exact yh_ok' h17 hq.1 hq.2
    · rw [if_neg (fun z => d1 (c1.mp z))]
      by_cases d2 : nI j = 127
      · rw [if_pos (c2.mpr d2), if_pos (Or.inr d2)]
        exact yh_ok' h17 hq.1 hq.2
      · rw [if_neg (fun z => d2 (c2.mp z)), if_neg (fun z => z.elim d1 d2)]
        exact yh_no' h17 hq.2
  · have hk8 : k ≤ 8 := by omega
    have e57 : (57 : Int32) - nI (7 * k) = nI (57 - 7 * k) := pk_sub (a := 57) (by omega)
    unfold yp_Se
    rw [if_neg h9, if_neg (show ¬ (57 : Int32) ≤ nI (7 * k) from nI_ge (b := 57) (by omega) (by decide)), e57]
    unfold jb_Reader_readSigned_83
    simp only [xs_let]
    rw [if_neg (show ¬ nI (7 * k) = (63 : Int32) from fun z => by have := (nI_eq (a := 7 * k) (b := 63) (by omega) (by decide)).mp z; omega), hw1]
    unfold jb_Reader_readSigned_117
    generalize ((v <<< ((nI (57 - 7 * k)).toInt64 &&& 63)) >>> ((nI (57 - 7 * k)).toInt64 &&& 63)) = x
    by_cases d1 : x >>> ((nI (w - 1)).toInt64 &&& 63) = 0
    · rw [if_pos d1, if_pos (Or.inl d1)]
      exact yh_ok' h17 hq.1 hq.2
    · rw [if_neg d1]
      by_cases d2 : x >>> ((nI (w - 1)).toInt64 &&& 63) = -1
      · rw [if_pos d2, if_pos (Or.inr d2)]
        exact yh_ok' h17 hq.1 hq.2
      · rw [if_neg d2, if_neg (fun z => z.elim d1 d2)]
        exact yh_no' h17 hq.2
theorem hh_Sg {B : Nat → Int32} {lim fu w : Nat} (hw : 0 < w ∧ w ≤ 64) : ∀ (d k p : Nat) (v : Int64) (n : Nat) (u : xk_St), k + d = 11 → d < n → yh_st B lim p u → yh_R u lim p (jb_Reader_readSigned_5 fu n (nI w) v (nI (7 * k)) u) (yp_Sg B lim w d k p v) := by
  intro d
  induction d with
  | zero =>
    intro k p v n u h1 h2 h
    obtain ⟨n, rfl⟩ : ∃ m, n = m + 1 := ⟨n - 1, by omega⟩
    unfold jb_Reader_readSigned_5 yp_Sg
    simp only [xs_let]
    rw [if_pos (show nI w ≤ nI (7 * k) from nI_le (by omega) (by omega))]
    exact yh_no' h.2.1 h.2.2.2.1
  | succ d ih =>
    intro k p v n u h1 h2 h
    obtain ⟨n, rfl⟩ : ∃ m, n = m + 1 := ⟨n - 1, by omega⟩
    obtain ⟨g1, g2, g3, g4, g5⟩ := id h
    unfold jb_Reader_readSigned_5 yp_Sg
    simp only [xs_let]
    by_cases hwk : w ≤ 7 * k
    · rw [if_pos hwk, if_pos (nI_le hwk (by omega))]
      exact yh_no' g2 g4
    rw [if_neg hwk, if_neg (nI_ge (by omega) (by omega)), g2, g3]
    by_cases hc : lim ≤ p
    · rw [if_pos hc, if_pos (nI_le hc (by omega))]
      exact yh_no' g2 g4
    · rw [if_neg hc, if_neg (nI_ge (by omega) (by omega)), if_neg (nI_in (N := 8192) (by omega) (by decide)), nI_clamp (by omega), g1, nI_1]
      show yh_R u lim p (if (128 : Int32) ≤ yb_b B p then jb_Reader_readSigned_5 fu n (nI w) (yw_w B p k v) (nI (7 * k) + (7 : Int32)) (xs_I u 17 (nI (p + 1))) else if (57 : Int32) ≤ nI (7 * k) then jb_Reader_readSigned_83 fu (nI w) (yw_w B p k v) (nI (7 * k)) (yb_b B p) (0 : Int32) (xs_I u 17 (nI (p + 1))) else jb_Reader_readSigned_83 fu (nI w) (yw_w B p k v) (nI (7 * k)) (yb_b B p) ((57 : Int32) - nI (7 * k)) (xs_I u 17 (nI (p + 1)))) _
      by_cases h8 : (128 : Int32) ≤ yb_b B p
      · rw [if_pos h8, if_pos h8, yb_7]
        exact yh_le (Nat.le_succ p) (yh_base (ih (k + 1) (p + 1) _ n _ (by omega) (by omega) (yh_mv h (by omega))))
      · rw [if_neg h8, if_neg h8]
        obtain ⟨j, hj, ej, -⟩ := yb_lo h8
        exact yh_base (hh_83 ⟨j, hj, ej⟩ (by omega) hw ⟨by omega, by omega⟩ ys_Ig)
theorem hh_S {B : Nat → Int32} {lim p fu w : Nat} {u : xk_St} (hw : 0 < w ∧ w ≤ 64) (hfu : 20 ≤ fu) (h : yh_st B lim p u) : yh_R u lim p (fm_Reader_readSigned fu (nI w) u) (yp_S B lim w p) := hh_Sg hw 11 0 p 0 fu u rfl (by omega) h
/-- the reference's signed number -/
theorem mm_135 {fu : Nat} {v : Int64} {u : xk_St} (h6 : u.1 6 = 0) : jb_Model_signed_135 fu v u = some (v, u) := if_pos h6
theorem mx_135 {fu : Nat} {v : Int64} {u : xk_St} (h6 : ¬ u.1 6 = 0) : jb_Model_signed_135 fu v u = some (0, u) := if_neg h6
theorem mx_114 {fu : Nat} {w : Int32} {v : Int64} {u : xk_St} (h6 : ¬ u.1 6 = 0) : jb_Model_signed_114 fu w v u = some (0, u) := by
  unfold jb_Model_signed_114 fm_Model_sx
  simp only [ys_seq, mm_fail1 h6, mx_135 h6, ite_self]
theorem mx_90 {fu : Nat} {w b c : Int32} {v : Int64} {u : xk_St} (h6 : ¬ u.1 6 = 0) : jb_Model_signed_90 fu w v b c u = some (0, u) := by
  unfold jb_Model_signed_90
  simp only [xs_let, mx_114 h6, ite_self]
theorem mx_78 {fu : Nat} {w b c : Int32} {v : Int64} {u : xk_St} (h6 : ¬ u.1 6 = 0) : jb_Model_signed_78 fu w v b c u = some (0, u) := by
  unfold jb_Model_signed_78
  simp only [ys_seq, mm_fail1 h6, mx_90 h6, ite_self]
theorem mx_S10 {fu n : Nat} {w b c : Int32} {v : Int64} {u : xk_St} (h6 : ¬ u.1 6 = 0) : jb_Model_signed_10 fu (n + 1) w v b c u = some (0, u) := by
  conv => lhs; unfold jb_Model_signed_10
  simp only [xs_let, mx_78 h6, if_neg h6, ite_self]
theorem mx_S {fu : Nat} {w : Int32} {u : xk_St} (hfu : 20 ≤ fu) (h6 : ¬ u.1 6 = 0) : fm_Model_signed fu w u = some (0, u) := by
  obtain ⟨n, rfl⟩ : ∃ m, fu = m + 1 := ⟨fu - 1, by omega⟩
  exact mx_S10 h6
theorem mm_S10e {fu n : Nat} {w b c : Int32} {v : Int64} {u : xk_St} (hb : b ≤ 127) : jb_Model_signed_10 fu (n + 1) w v b c u = jb_Model_signed_78 fu w v b c u := by
  conv => lhs; unfold jb_Model_signed_10
  simp only [xs_let]
  rw [if_pos hb]
/-- the check of the width -/
theorem mm_114 {B : Nat → Int32} {fu w q lim p : Nat} {v : Int64} {u : xk_St} (hw : 0 < w ∧ w ≤ 64) (h : ym_st B lim q u) (hq : p ≤ q) (h6 : u.1 6 = 0) :
    ym_R B u lim p (jb_Model_signed_114 fu (nI w) v u) (if v >>> ((nI (w - 1)).toInt64 &&& 63) = 0 ∨ v >>> ((nI (w - 1)).toInt64 &&& 63) = -1 then .inl (v, q) else .inr 0) := by
  have hf := yz_fit v (w := w - 1) (by omega)
  rw [show w - 1 + 1 = w by omega] at hf
  unfold jb_Model_signed_114 fm_Model_sx
  simp only [ys_seq]
  by_cases h64 : w = 64
  · subst h64
    rw [if_pos (show (64 : Int32) ≤ nI 64 by decide), mm_135 h6, if_pos]
    · exact ym_ok' h.2.1 hq h.2.2.2.1
    · exact hf.mpr (by rw [show nI (64 - 64) = (0 : Int32) from rfl]; exact yz_0 v)
  · rw [if_neg (show ¬ (64 : Int32) ≤ nI w from nI_ge (b := 64) (by omega) (by decide)), show (64 : Int32) - nI w = nI (64 - w) from pk_sub (a := 64) (by omega)]
    by_cases hx : ((v <<< ((nI (64 - w)).toInt64 &&& 63)) >>> ((nI (64 - w)).toInt64 &&& 63)) = v
    · rw [if_pos hx, if_pos (hf.mpr hx), mm_135 h6]
      exact ym_ok' h.2.1 hq h.2.2.2.1
    · rw [if_neg hx, if_neg (fun z => hx (hf.mp z)), mm_fail0 h6, ys_seq, mx_135 (by rw [ys_Ig]; decide)]
      exact ym_no (yx_some (ym_I6 h) ys_Ig)
theorem mm_Sg {B : Nat → Int32} {lim fu w : Nat} (hw : 0 < w ∧ w ≤ 64) : ∀ (d k p m : Nat) (n : Nat) (u : xk_St) (b : Int32), k + d = 11 → d + 1 < n → ym_st B lim p u → u.1 6 = 0 → (127 : Int32) < b → m < 2 ^ (7 * k) → ym_R B u lim p (jb_Model_signed_10 fu n (nI w) (lN m) b (nI (7 * k)) u) (yp_Sg B lim w d k p (lN m)) := by
  intro d
  induction d with
  | zero =>
    intro k p m n u b h1 h2 h h6 hb hm
    obtain ⟨n, rfl⟩ : ∃ m, n = m + 1 := ⟨n - 1, by omega⟩
    conv => arg 5; unfold jb_Model_signed_10
    unfold yp_Sg
    simp only [xs_let]
    rw [if_neg (yi_nle.mpr hb), if_pos (show nI w ≤ nI (7 * k) from nI_le (by omega) (by omega))]
    unfold jb_Model_signed_78
    rw [if_neg (yi_nle.mpr hb), mm_fail0 h6]
    show ym_R B u lim p (jb_Model_signed_90 fu (nI w) (lN m) b (nI (7 * k)) (xs_I u 6 (-1))) _
    rw [mx_90 (by rw [ys_Ig]; decide)]
    exact ym_no (yx_some (ym_I6 h) ys_Ig)
  | succ d ih =>
    intro k p m n u b h1 h2 h h6 hb hm
    obtain ⟨n, rfl⟩ : ∃ m, n = m + 2 := ⟨n - 2, by omega⟩
    obtain ⟨g1, g2, g3, g4, g5⟩ := id h
    conv => arg 5; unfold jb_Model_signed_10
    unfold yp_Sg
    simp only [xs_let]
    by_cases hwk : w ≤ 7 * k
    · rw [if_neg (yi_nle.mpr hb), if_pos (nI_le hwk (by omega)), if_pos hwk]
      unfold jb_Model_signed_78
      rw [if_neg (yi_nle.mpr hb), mm_fail0 h6]
      show ym_R B u lim p (jb_Model_signed_90 fu (nI w) (lN m) b (nI (7 * k)) (xs_I u 6 (-1))) _
      rw [mx_90 (by rw [ys_Ig]; decide)]
      exact ym_no (yx_some (ym_I6 h) ys_Ig)
    rw [if_neg (yi_nle.mpr hb), if_neg (nI_ge (by omega) (by omega)), if_pos h6, if_neg hwk, mm_one_eq h h6]
    have hk9 : k ≤ 9 := by omega
    by_cases hc : lim ≤ p
    · rw [if_pos hc, if_pos hc]
      have hx6 : ¬ (xs_I u 6 (-1)).1 6 = 0 := by rw [ys_Ig]; decide
      have hxx : ∀ (b5 : Int32) (v : Int64) (b2 : Int32), jb_Model_signed_60 fu (jb_Model_signed_10 fu (n + 1)) (nI w) v b2 b5 (xs_I u 6 (-1)) = some (0, xs_I u 6 (-1)) := fun b5 v b2 => mx_S10 hx6
      rw [ys_seq, hxx, if_pos rfl]
      split <;> exact ym_no (yx_some (ym_I6 h) ys_Ig)
    · rw [if_neg hc, if_neg hc, ys_seq]
      by_cases h9 : k = 9
      · subst h9
        rw [if_pos (show nI (7 * 9) = (63 : Int32) by decide)]
        by_cases h8 : (128 : Int32) ≤ yb_b B p
        · rw [if_pos h8]
          have q1 : ¬ yb_b B p = 0 := fun z => by rw [z] at h8; exact absurd h8 (by decide)
          have q2 : ¬ yb_b B p = 127 := fun z => by rw [z] at h8; exact absurd h8 (by decide)
          rw [if_neg q1, if_neg q2, mm_fail0 (show (xs_I u 4 (nI (p + 1))).1 6 = 0 from h6)]
          have hx6 : ¬ (xs_I (xs_I u 4 (nI (p + 1))) 6 (-1)).1 6 = 0 := by rw [ys_Ig]; decide
          show ym_R B u lim p (jb_Model_signed_60 fu (jb_Model_signed_10 fu (n + 1)) (nI w) (lN m) (yb_b B p) (nI (7 * 9)) (xs_I (xs_I u 4 (nI (p + 1))) 6 (-1))) _
          rw [show jb_Model_signed_60 fu (jb_Model_signed_10 fu (n + 1)) (nI w) (lN m) (yb_b B p) (nI (7 * 9)) (xs_I (xs_I u 4 (nI (p + 1))) 6 (-1)) = _ from mx_S10 hx6]
          have hs : yp_Sg B lim w d (9 + 1) (p + 1) (yw_w B p 9 (lN m)) = .inr 0 := by
            obtain rfl : d = 1 := by omega
            unfold yp_Sg
            rw [if_pos (by omega)]
          rw [hs]
          exact ym_no (yx_some (ym_I6 (ym_mv h (by omega))) ys_Ig)
        · rw [if_neg h8]
          unfold yp_Se
          rw [if_pos rfl]
          obtain ⟨j, hj, ej, -⟩ := yb_lo h8
          have hle : yb_b B p ≤ 127 := by rw [ej]; exact (nI_leI (a := j) (b := 127) (by omega) (by decide)).mpr (by omega)
          have hgo : u.1 6 = 0 → (yb_b B p = 0 ∨ yb_b B p = 127) → ym_R B u lim p (jb_Model_signed_60 fu (jb_Model_signed_10 fu (n + 1)) (nI w) (lN m) (yb_b B p) (nI (7 * 9)) (xs_I u 4 (nI (p + 1)))) (.inl (yw_w B p 9 (lN m), p + 1)) := by
            intro _ hz
            unfold jb_Model_signed_60
            simp only [xs_let]
            rw [yb_7, mm_S10e hle]
            show ym_R B u lim p (jb_Model_signed_78 fu (nI w) (yw_w B p 9 (lN m)) (yb_b B p) (nI (7 * (9 + 1))) (xs_I u 4 (nI (p + 1)))) _
            unfold jb_Model_signed_78 jb_Model_signed_90 jb_Model_signed_114
            have hw64 : w = 64 := by omega
            subst hw64
            rw [if_pos hle, if_pos (show (64 : Int32) ≤ nI (7 * (9 + 1)) by decide), if_pos (show (64 : Int32) ≤ nI 64 by decide), mm_135 (show (xs_I u 4 (nI (p + 1))).1 6 = 0 from h6)]
            exact ym_ok (by omega) (by omega)
          by_cases d1 : yb_b B p = 0
          · rw [if_pos d1, if_pos (Or.inl d1)]
            exact hgo h6 (Or.inl d1)
          · rw [if_neg d1]
            by_cases d2 : yb_b B p = 127
            · rw [if_pos d2, if_pos (Or.inr d2)]
              exact hgo h6 (Or.inr d2)
            · rw [if_neg d2, if_neg (fun z => z.elim d1 d2), mm_fail0 (show (xs_I u 4 (nI (p + 1))).1 6 = 0 from h6)]
              have hx6 : ¬ (xs_I (xs_I u 4 (nI (p + 1))) 6 (-1)).1 6 = 0 := by rw [ys_Ig]; decide
              show ym_R B u lim p (jb_Model_signed_60 fu (jb_Model_signed_10 fu (n + 1)) (nI w) (lN m) (yb_b B p) (nI (7 * 9)) (xs_I (xs_I u 4 (nI (p + 1))) 6 (-1))) _
              rw [show jb_Model_signed_60 fu (jb_Model_signed_10 fu (n + 1)) (nI w) (lN m) (yb_b B p) (nI (7 * 9)) (xs_I (xs_I u 4 (nI (p + 1))) 6 (-1)) = _ from mx_S10 hx6]
              exact ym_no (yx_some (ym_I6 (ym_mv h (by omega))) ys_Ig)
      · have hk8 : k ≤ 8 := by omega
        rw [if_neg (show ¬ nI (7 * k) = (63 : Int32) from fun z => by have := (nI_eq (a := 7 * k) (b := 63) (by omega) (by decide)).mp z; omega)]
        unfold jb_Model_signed_60
        simp only [xs_let]
        rw [yb_7]
        show ym_R B u lim p (jb_Model_signed_10 fu (n + 1) (nI w) (yw_w B p k (lN m)) (yb_b B p) (nI (7 * (k + 1))) (xs_I u 4 (nI (p + 1)))) _
        obtain ⟨j, hj, ej, ew, hm2⟩ := yw_lN (B := B) (p := p) hk8 hm
        by_cases h8 : (128 : Int32) ≤ yb_b B p
        · rw [if_pos h8, ew]
          refine ym_le (Nat.le_succ p) (ym_base (ih (k + 1) (p + 1) _ (n + 1) _ _ (by omega) (by omega) (ym_mv h (by omega)) h6 ?_ hm2))
          obtain ⟨j, hj, e⟩ := yb_n B p
          rw [e] at h8 ⊢
          have := (nI_leI (a := 128) (b := j) (by decide) (by omega)).mp h8
          exact (nI_ltI (a := 127) (b := j) (by decide) (by omega)).mpr (by omega)
        · rw [if_neg h8]
          obtain ⟨j', hj', ej1, ej2⟩ := yb_lo h8
          obtain rfl : j' = j := by
            have := ej2.symm.trans ej
            exact (nI_eq (a := j') (b := j) (by omega) (by omega)).mp this
          have hle : yb_b B p ≤ 127 := by rw [ej1]; exact (nI_leI (a := j') (b := 127) (by omega) (by decide)).mpr (by omega)
          rw [mm_S10e hle]
          unfold jb_Model_signed_78 jb_Model_signed_90 yp_Se
          rw [if_pos hle, if_neg (show ¬ (64 : Int32) ≤ nI (7 * (k + 1)) from nI_ge (b := 64) (by omega) (by decide)), if_neg h9, ew, yz_S hk8 hj' hm, ej1]
          simp only [xs_let]
          have hst := ym_mv (q := p + 1) h (by omega)
          by_cases d : (nI j' &&& 64) = 0
          · rw [if_pos d, if_pos d]
            exact ym_base (mm_114 hw hst (by omega) h6)
          · rw [if_neg d, if_neg d]
            exact ym_base (mm_114 hw hst (by omega) h6)
theorem mm_S {B : Nat → Int32} {lim p fu w : Nat} {u : xk_St} (hw : 0 < w ∧ w ≤ 64) (hfu : 20 ≤ fu) (h : ym_st B lim p u) (h6 : u.1 6 = 0) : ym_R B u lim p (fm_Model_signed fu (nI w) u) (yp_S B lim w p) := mm_Sg hw 11 0 p 0 fu u 128 rfl (by omega) h h6 (by decide) (by decide)
