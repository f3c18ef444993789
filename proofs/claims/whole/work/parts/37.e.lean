section
variable {k : Nat}
theorem md_trap {x y m : Int64} (hk : 3 ≤ k) (hk2 : k ≤ 6) (u : xk_St) : fm_Numbers_trapOf (nI k) x y m u = some (if y = 0 then 3 else if k = 3 ∧ x = m ∧ y = -1 then 4 else 0, u) := by
  unfold fm_Numbers_trapOf
  rw [if_neg (show ¬ nI k < 3 from fun t => by have := (nI_ltI (b := 3) (by omega) (by decide)).mp t; omega), if_pos (show nI k ≤ 6 from (nI_leI (b := 6) (by omega) (by decide)).mpr hk2)]
  by_cases c0 : y = 0
  · rw [if_pos c0, if_pos c0]
  · rw [if_neg c0, if_neg c0]
    by_cases c1 : k = 3
    · rw [if_pos (show nI k = 3 by rw [c1]; rfl)]
      by_cases c2 : x = m
      · rw [if_pos c2]
        by_cases c3 : y = -1
        · rw [if_pos c3, if_pos ⟨c1, c2, c3⟩]
        · rw [if_neg c3, if_neg (fun t => c3 t.2.2)]
      · rw [if_neg c2, if_neg (fun t => c2 t.2.1)]
    · rw [if_neg (show ¬ nI k = 3 from fun t => c1 ((nI_eq (b := 3) (by omega) (by decide)).mp t)), if_neg (fun t => c1 t.1)]
/-- signed division by the reference -/
theorem md_s {x y : Int64} {o : Nat} (ho : o = 0 ∨ o = 2) (w : Int32) (m : Int64) (hm : (-1 : Int64) <<< ((w - 1).toInt64 &&& 63) = m) (hy : ¬ y = 0) (v : xk_St) : fm_Model_divided (nI o) x y w v = if x = m ∧ y = -1 then some (0, if o = 0 then xs_I v 29 4 else v) else some (if o = 0 then x / y else x - x / y * y, v) := by
  unfold fm_Model_divided
  rw [if_neg hy, if_neg (by decide), if_pos (by rcases ho with rfl | rfl <;> decide), hm]
  have h46 : jb_Model_divided_46 (nI o) x y v = some (if o = 0 then x / y else x - x / y * y, v) := by
    unfold jb_Model_divided_46 jb_Model_divided_47 jb_Model_divided_63
    rcases ho with rfl | rfl
    · rw [if_pos (by decide), if_pos rfl, if_pos rfl, if_pos (by decide), if_neg hy, if_pos rfl]
    · rw [if_neg (by decide), if_pos rfl, if_neg (by decide), if_neg hy, if_neg (by decide)]
  have h47 : jb_Model_divided_47 (nI o) x y 1 v = some (0, if o = 0 then xs_I v 29 4 else v) := by
    unfold jb_Model_divided_47 jb_Model_divided_63
    rcases ho with rfl | rfl
    · rw [if_pos (by decide), if_neg (by decide), xl_eq, if_neg (by decide), if_pos rfl]
    · rw [if_neg (by decide), if_neg (by decide), if_neg (by decide)]
  rw [h46, h47]
  by_cases c1 : y = -1
  · rw [if_pos c1]
    by_cases c2 : x = m
    · rw [if_pos c2, if_pos (show x = m ∧ y = -1 from ⟨c2, c1⟩)]
    · rw [if_neg c2, if_neg (show ¬ (x = m ∧ y = -1) from fun t => c2 t.1)]
  · rw [if_neg c1, if_neg (show ¬ (x = m ∧ y = -1) from fun t => c1 t.2)]
theorem md_0 {x : Int64} {o w : Int32} (v : xk_St) : fm_Model_divided o x 0 w v = some (0, xs_I v 29 3) := by
  unfold fm_Model_divided
  rw [if_pos rfl, xl_eq]
/-- unsigned division by the reference -/
theorem md_u {x y : Int64} {o : Nat} (ho : o = 1 ∨ o = 3) (w : Int32) (hy : ¬ y = 0) (v : xk_St) : fm_Model_divided (nI o) x y w v = if w = 32 then jb_Model_divided_124 (nI o) (x &&& 4294967295) (y &&& 4294967295) v else jb_Model_divided_124 (nI o) x y v := by
  unfold fm_Model_divided jb_Model_divided_104
  rw [if_neg hy, if_neg (by decide), if_neg (by rcases ho with rfl | rfl <;> decide)]
  by_cases c : w = 32
  · rw [if_pos c, if_pos c, if_pos c]
  · rw [if_neg c, if_neg c, if_neg c]
theorem md_124 {x y : Int64} {o : Nat} (ho : o = 1 ∨ o = 3) (hy : ¬ y = 0) : ∃ q, (∀ u, fm_Numbers_quotient x y u = some (q, u)) ∧ (∀ v, jb_Model_divided_124 (nI o) x y v = some (if o = 1 then q else x - q * y, v)) ∧ (y.toBitVec.toNat < 2 ^ 63 → q.toBitVec.toNat = x.toBitVec.toNat / y.toBitVec.toNat) := by
  obtain ⟨q, q1, q2, q3, q4⟩ := uq x y hy
  refine ⟨q, q1, fun v => ?_, q4⟩
  unfold jb_Model_divided_124
  rcases ho with rfl | rfl
  · rw [if_pos (by decide), if_pos rfl, q2, ys_seq]
  · rw [if_neg (by decide), if_neg (by decide), q3, ys_seq]
theorem rk_div {x y : Int64} {o : Nat} (ho : o < 4) (w : Int32) (v : xk_St) : fm_Model_reckoned (nI (o + 6)) x y w v = fm_Model_divided (nI o) x y w v := by
  have : o = 0 ∨ o = 1 ∨ o = 2 ∨ o = 3 := by omega
  unfold fm_Model_reckoned
  rcases this with rfl | rfl | rfl | rfl
  · iterate 3 rw [if_neg (by decide)]
    rw [if_pos (by decide)]
    unfold jb_Model_reckoned_71
    rw [xs_idA, show nI (0 + 6) - 6 = nI 0 by decide]
  · iterate 4 rw [if_neg (by decide)]
    rw [if_pos (by decide)]
    unfold jb_Model_reckoned_71
    rw [xs_idA, show nI (1 + 6) - 6 = nI 1 by decide]
  · iterate 5 rw [if_neg (by decide)]
    rw [if_pos (by decide)]
    unfold jb_Model_reckoned_71
    rw [xs_idA, show nI (2 + 6) - 6 = nI 2 by decide]
  · iterate 6 rw [if_neg (by decide)]
    rw [if_pos (by decide)]
    unfold jb_Model_reckoned_71
    rw [xs_idA, show nI (3 + 6) - 6 = nI 3 by decide]
theorem div32 (a b : Int32) : (a.toInt64 / b.toInt64).toInt32 = a / b := by
  by_cases c : b = -1
  · by_cases c2 : a = Int32.minValue
    · rw [c, c2]; decide +kernel
    · rw [← Int32.toInt64_div_of_ne_left a b c2, Int32.toInt32_toInt64]
  · rw [← Int32.toInt64_div_of_ne_right a b c, Int32.toInt32_toInt64]
/-- an instruction with two numbers of 32 bits -/
theorem n32 (hk : k < 15) (a b : Int32) : ∃ t, (t = 0 ∨ t = 3 ∨ t = 4) ∧ (∀ u, fm_Numbers_trapOf (nI k) a.toInt64 b.toInt64 (-2147483648) u = some (nI t, u)) ∧ (¬ t = 0 → ∃ R, ∀ v, fm_Model_reckoned (nI (k + 3)) a.toInt64 b.toInt64 32 v = some (R, xs_I v 29 (nI t))) ∧ (t = 0 → ∃ R, (∀ u, fm_Numbers_answer32 (nI k) a b u = some (R.toInt32, u)) ∧ ∀ v, fm_Model_reckoned (nI (k + 3)) a.toInt64 b.toInt64 32 v = some (R, v)) := by
  by_cases c : 3 ≤ k ∧ k ≤ 6
  · by_cases b0 : b.toInt64 = 0
    · refine ⟨3, by omega, fun u => ?_, fun _ => ⟨0, fun v => ?_⟩, fun t => by cases t⟩
      · rw [md_trap c.1 c.2, if_pos b0]; rfl
      · obtain ⟨o, ho, rfl⟩ : ∃ o, o < 4 ∧ k = o + 3 := ⟨k - 3, by omega, by omega⟩
        rw [show o + 3 + 3 = o + 6 from rfl, rk_div ho, b0, md_0]; rfl
    · have b0' : ¬ b = 0 := fun t => b0 (by rw [t]; rfl)
      have hk4 : k = 3 ∨ k = 4 ∨ k = 5 ∨ k = 6 := by omega
      have hm : (-1 : Int64) <<< (((32 : Int32) - 1).toInt64 &&& 63) = -2147483648 := by decide +kernel
      rcases hk4 with rfl | rfl | rfl | rfl
      · by_cases cm : a.toInt64 = -2147483648 ∧ b.toInt64 = -1
        · refine ⟨4, by omega, fun u => ?_, fun _ => ⟨0, fun v => ?_⟩, fun t => by cases t⟩
          · rw [md_trap (by decide) (by decide), if_neg b0, if_pos ⟨rfl, cm⟩]; rfl
          · rw [show 3 + 3 = 0 + 6 from rfl, rk_div (by decide), md_s (Or.inl rfl) 32 _ hm b0, if_pos cm, if_pos rfl]; rfl
        · refine ⟨0, by omega, fun u => ?_, fun t => absurd rfl t, fun _ => ⟨a.toInt64 / b.toInt64, fun u => ?_, fun v => ?_⟩⟩
          · rw [md_trap (by decide) (by decide), if_neg b0, if_neg (fun t => cm t.2)]; rfl
          · unfold fm_Numbers_answer32
            iterate 3 rw [if_neg (by decide)]
            rw [if_pos (by decide), if_neg b0', div32]
          · rw [show 3 + 3 = 0 + 6 from rfl, rk_div (by decide), md_s (Or.inl rfl) 32 _ hm b0, if_neg cm, if_pos rfl]
      · have hM0 : ¬ b.toInt64 &&& 4294967295 = 0 := fun t => b0' (i32_inj (b := 0) (by
          have := mz_M b.toInt64
          rw [mz_N, t] at this
          apply BitVec.eq_of_toNat_eq
          rw [← this]; rfl))
        obtain ⟨q, q1, q2, q3⟩ := md_124 (x := a.toInt64 &&& 4294967295) (y := b.toInt64 &&& 4294967295) (Or.inl rfl) hM0
        have hN := mz_M a.toInt64
        have hD := mz_M b.toInt64
        have eq : q = (a.toInt64 &&& 4294967295) / (b.toInt64 &&& 4294967295) := by
          apply tn_inj
          rw [ud_div (by omega) (by omega)]
          exact q3 (by omega)
        refine ⟨0, by omega, fun u => ?_, fun t => absurd rfl t, fun _ => ⟨q, fun u => ?_, fun v => ?_⟩⟩
        · rw [md_trap (by decide) (by decide), if_neg b0, if_neg (fun t => by have := t.1; omega)]; rfl
        · unfold fm_Numbers_answer32
          iterate 4 rw [if_neg (by decide)]
          rw [if_pos (by decide), if_neg hM0, eq]
        · rw [show 4 + 3 = 1 + 6 from rfl, rk_div (by decide), md_u (Or.inl rfl) 32 b0, if_pos rfl, q2, if_pos rfl]
      · refine ⟨0, by omega, fun u => ?_, fun t => absurd rfl t, fun _ => ⟨if a.toInt64 = -2147483648 ∧ b.toInt64 = -1 then 0 else a.toInt64 - a.toInt64 / b.toInt64 * b.toInt64, fun u => ?_, fun v => ?_⟩⟩
        · rw [md_trap (by decide) (by decide), if_neg b0, if_neg (fun t => by have := t.1; omega)]; rfl
        · unfold fm_Numbers_answer32
          iterate 5 rw [if_neg (by decide)]
          rw [if_pos (by decide), if_neg b0']
          congr 2
          by_cases cm : a.toInt64 = -2147483648 ∧ b.toInt64 = -1
          · rw [if_pos cm]
            have ea : a = -2147483648 := by rw [← Int32.toInt32_toInt64 a, cm.1]; decide +kernel
            have eb : b = -1 := by rw [← Int32.toInt32_toInt64 b, cm.2]; decide +kernel
            rw [ea, eb]; decide +kernel
          · rw [if_neg cm, Int64.toInt32_sub, Int64.toInt32_mul, div32, Int32.toInt32_toInt64, Int32.toInt32_toInt64]
        · rw [show 5 + 3 = 2 + 6 from rfl, rk_div (by decide), md_s (Or.inr rfl) 32 _ hm b0]
          by_cases cm : a.toInt64 = -2147483648 ∧ b.toInt64 = -1
          · rw [if_pos cm, if_pos cm, if_neg (by decide)]
          · rw [if_neg cm, if_neg cm, if_neg (by decide)]
      · have hM0 : ¬ b.toInt64 &&& 4294967295 = 0 := fun t => b0' (i32_inj (b := 0) (by
          have := mz_M b.toInt64
          rw [mz_N, t] at this
          apply BitVec.eq_of_toNat_eq
          rw [← this]; rfl))
        obtain ⟨q, q1, q2, q3⟩ := md_124 (x := a.toInt64 &&& 4294967295) (y := b.toInt64 &&& 4294967295) (Or.inr rfl) hM0
        have hN := mz_M a.toInt64
        have hD := mz_M b.toInt64
        have eq : q = (a.toInt64 &&& 4294967295) / (b.toInt64 &&& 4294967295) := by
          apply tn_inj
          rw [ud_div (by omega) (by omega)]
          exact q3 (by omega)
        refine ⟨0, by omega, fun u => ?_, fun t => absurd rfl t, fun _ => ⟨(a.toInt64 &&& 4294967295) - q * (b.toInt64 &&& 4294967295), fun u => ?_, fun v => ?_⟩⟩
        · rw [md_trap (by decide) (by decide), if_neg b0, if_neg (fun t => by have := t.1; omega)]; rfl
        · unfold fm_Numbers_answer32
          iterate 6 rw [if_neg (by decide)]
          rw [if_pos (by decide), if_neg hM0, eq]
        · rw [show 6 + 3 = 3 + 6 from rfl, rk_div (by decide), md_u (Or.inr rfl) 32 b0, if_pos rfl, q2, if_neg (by decide)]
  · refine ⟨0, by omega, fun u => md_trap0 hk c _ _ _ u, fun t => absurd rfl t, fun _ => ?_⟩
    have hk4 : k = 0 ∨ k = 1 ∨ k = 2 ∨ k = 7 ∨ k = 8 ∨ k = 9 ∨ 10 ≤ k := by omega
    rcases hk4 with rfl | rfl | rfl | rfl | rfl | rfl | h10
    · refine ⟨a.toInt64 + b.toInt64, fun u => ?_, fun v => ?_⟩
      · unfold fm_Numbers_answer32
        rw [if_pos (by decide), Int64.toInt32_add, Int32.toInt32_toInt64, Int32.toInt32_toInt64]
      · unfold fm_Model_reckoned
        rw [if_pos (by decide)]
    · refine ⟨a.toInt64 - b.toInt64, fun u => ?_, fun v => ?_⟩
      · unfold fm_Numbers_answer32
        rw [if_neg (by decide), if_pos (by decide), Int64.toInt32_sub, Int32.toInt32_toInt64, Int32.toInt32_toInt64]
      · unfold fm_Model_reckoned
        rw [if_neg (by decide), if_pos (by decide)]
    · refine ⟨a.toInt64 * b.toInt64, fun u => ?_, fun v => ?_⟩
      · unfold fm_Numbers_answer32
        rw [if_neg (by decide), if_neg (by decide), if_pos (by decide), Int64.toInt32_mul, Int32.toInt32_toInt64, Int32.toInt32_toInt64]
      · unfold fm_Model_reckoned
        rw [if_neg (by decide), if_neg (by decide), if_pos (by decide)]
    · refine ⟨a.toInt64 &&& b.toInt64, fun u => ?_, fun v => ?_⟩
      · unfold fm_Numbers_answer32
        iterate 7 rw [if_neg (by decide)]
        rw [if_pos (by decide), Int64.toInt32_and, Int32.toInt32_toInt64, Int32.toInt32_toInt64]
      · unfold fm_Model_reckoned
        iterate 7 rw [if_neg (by decide)]
        rw [if_pos (by decide)]
    · refine ⟨a.toInt64 ||| b.toInt64, fun u => ?_, fun v => ?_⟩
      · unfold fm_Numbers_answer32
        iterate 8 rw [if_neg (by decide)]
        rw [if_pos (by decide), Int64.toInt32_or, Int32.toInt32_toInt64, Int32.toInt32_toInt64]
      · unfold fm_Model_reckoned
        iterate 8 rw [if_neg (by decide)]
        rw [if_pos (by decide)]
    · refine ⟨a.toInt64 ^^^ b.toInt64, fun u => ?_, fun v => ?_⟩
      · unfold fm_Numbers_answer32
        iterate 9 rw [if_neg (by decide)]
        rw [if_pos (by decide), Int64.toInt32_xor, Int32.toInt32_toInt64, Int32.toInt32_toInt64]
      · unfold fm_Model_reckoned
        iterate 9 rw [if_neg (by decide)]
        rw [if_pos (by decide)]
    · exact n32_sh k h10 hk a b
/-- an instruction with two numbers of 64 bits -/
theorem n64 (hk : k < 15) (a b : Int64) : ∃ t, (t = 0 ∨ t = 3 ∨ t = 4) ∧ (∀ u, fm_Numbers_trapOf (nI k) a b (-9223372036854775808) u = some (nI t, u)) ∧ (¬ t = 0 → ∃ R, ∀ v, fm_Model_reckoned (nI (k + 3)) a b 64 v = some (R, xs_I v 29 (nI t))) ∧ (t = 0 → ∃ R, (∀ u, fm_Numbers_answer64 (nI k) a b u = some (R, u)) ∧ ∀ v, fm_Model_reckoned (nI (k + 3)) a b 64 v = some (R, v)) := by
  by_cases c : 3 ≤ k ∧ k ≤ 6
  · by_cases b0 : b = 0
    · refine ⟨3, by omega, fun u => ?_, fun _ => ⟨0, fun v => ?_⟩, fun t => by cases t⟩
      · rw [md_trap c.1 c.2, if_pos b0]; rfl
      · obtain ⟨o, ho, rfl⟩ : ∃ o, o < 4 ∧ k = o + 3 := ⟨k - 3, by omega, by omega⟩
        rw [show o + 3 + 3 = o + 6 from rfl, rk_div ho, b0, md_0]; rfl
    · have hk4 : k = 3 ∨ k = 4 ∨ k = 5 ∨ k = 6 := by omega
      have hm : (-1 : Int64) <<< (((64 : Int32) - 1).toInt64 &&& 63) = -9223372036854775808 := by decide +kernel
      rcases hk4 with rfl | rfl | rfl | rfl
      · by_cases cm : a = -9223372036854775808 ∧ b = -1
        · refine ⟨4, by omega, fun u => ?_, fun _ => ⟨0, fun v => ?_⟩, fun t => by cases t⟩
          · rw [md_trap (by decide) (by decide), if_neg b0, if_pos ⟨rfl, cm⟩]; rfl
          · rw [show 3 + 3 = 0 + 6 from rfl, rk_div (by decide), md_s (Or.inl rfl) 64 _ hm b0, if_pos cm, if_pos rfl]; rfl
        · refine ⟨0, by omega, fun u => ?_, fun t => absurd rfl t, fun _ => ⟨a / b, fun u => ?_, fun v => ?_⟩⟩
          · rw [md_trap (by decide) (by decide), if_neg b0, if_neg (fun t => cm t.2)]; rfl
          · unfold fm_Numbers_answer64
            iterate 3 rw [if_neg (by decide)]
            rw [if_pos (by decide), if_neg b0]
          · rw [show 3 + 3 = 0 + 6 from rfl, rk_div (by decide), md_s (Or.inl rfl) 64 _ hm b0, if_neg cm, if_pos rfl]
      · obtain ⟨q, q1, q2, q3⟩ := md_124 (x := a) (y := b) (Or.inl rfl) b0
        refine ⟨0, by omega, fun u => ?_, fun t => absurd rfl t, fun _ => ⟨q, fun u => ?_, fun v => ?_⟩⟩
        · rw [md_trap (by decide) (by decide), if_neg b0, if_neg (fun t => by have := t.1; omega)]; rfl
        · unfold fm_Numbers_answer64
          iterate 4 rw [if_neg (by decide)]
          rw [if_pos (by decide), q1, ys_seq]
        · rw [show 4 + 3 = 1 + 6 from rfl, rk_div (by decide), md_u (Or.inl rfl) 64 b0, if_neg (by decide), q2, if_pos rfl]
      · refine ⟨0, by omega, fun u => ?_, fun t => absurd rfl t, fun _ => ⟨if a = -9223372036854775808 ∧ b = -1 then 0 else a - a / b * b, fun u => ?_, fun v => ?_⟩⟩
        · rw [md_trap (by decide) (by decide), if_neg b0, if_neg (fun t => by have := t.1; omega)]; rfl
        · unfold fm_Numbers_answer64
          iterate 5 rw [if_neg (by decide)]
          rw [if_pos (by decide), if_neg b0]
          congr 2
          by_cases cm : a = -9223372036854775808 ∧ b = -1
          · rw [if_pos cm, cm.1, cm.2]; decide +kernel
          · rw [if_neg cm]
        · rw [show 5 + 3 = 2 + 6 from rfl, rk_div (by decide), md_s (Or.inr rfl) 64 _ hm b0]
          by_cases cm : a = -9223372036854775808 ∧ b = -1
          · rw [if_pos cm, if_pos cm, if_neg (by decide)]
          · rw [if_neg cm, if_neg cm, if_neg (by decide)]
      · obtain ⟨q, q1, q2, q3⟩ := md_124 (x := a) (y := b) (Or.inr rfl) b0
        refine ⟨0, by omega, fun u => ?_, fun t => absurd rfl t, fun _ => ⟨a - q * b, fun u => ?_, fun v => ?_⟩⟩
        · rw [md_trap (by decide) (by decide), if_neg b0, if_neg (fun t => by have := t.1; omega)]; rfl
        · unfold fm_Numbers_answer64
          iterate 6 rw [if_neg (by decide)]
          rw [if_pos (by decide), q1, ys_seq]
        · rw [show 6 + 3 = 3 + 6 from rfl, rk_div (by decide), md_u (Or.inr rfl) 64 b0, if_neg (by decide), q2, if_neg (by decide)]
  · refine ⟨0, by omega, fun u => md_trap0 hk c _ _ _ u, fun t => absurd rfl t, fun _ => ?_⟩
    have hk4 : k = 0 ∨ k = 1 ∨ k = 2 ∨ k = 7 ∨ k = 8 ∨ k = 9 ∨ 10 ≤ k := by omega
    rcases hk4 with rfl | rfl | rfl | rfl | rfl | rfl | h10
    · refine ⟨a + b, fun u => ?_, fun v => ?_⟩
      · unfold fm_Numbers_answer64
        rw [if_pos (by decide)]
      · unfold fm_Model_reckoned
        rw [if_pos (by decide)]
    · refine ⟨a - b, fun u => ?_, fun v => ?_⟩
      · unfold fm_Numbers_answer64
        rw [if_neg (by decide), if_pos (by decide)]
      · unfold fm_Model_reckoned
        rw [if_neg (by decide), if_pos (by decide)]
    · refine ⟨a * b, fun u => ?_, fun v => ?_⟩
      · unfold fm_Numbers_answer64
        rw [if_neg (by decide), if_neg (by decide), if_pos (by decide)]
      · unfold fm_Model_reckoned
        rw [if_neg (by decide), if_neg (by decide), if_pos (by decide)]
    · refine ⟨a &&& b, fun u => ?_, fun v => ?_⟩
      · unfold fm_Numbers_answer64
        iterate 7 rw [if_neg (by decide)]
        rw [if_pos (by decide)]
      · unfold fm_Model_reckoned
        iterate 7 rw [if_neg (by decide)]
        rw [if_pos (by decide)]
    · refine ⟨a ||| b, fun u => ?_, fun v => ?_⟩
      · unfold fm_Numbers_answer64
        iterate 8 rw [if_neg (by decide)]
        rw [if_pos (by decide)]
      · unfold fm_Model_reckoned
        iterate 8 rw [if_neg (by decide)]
        rw [if_pos (by decide)]
    · refine ⟨a ^^^ b, fun u => ?_, fun v => ?_⟩
      · unfold fm_Numbers_answer64
        iterate 9 rw [if_neg (by decide)]
        rw [if_pos (by decide)]
      · unfold fm_Model_reckoned
        iterate 9 rw [if_neg (by decide)]
        rw [if_pos (by decide)]
    · exact n64_sh k h10 hk a b
end
