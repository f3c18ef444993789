section
variable {α β γ δ σ τ : Type} {B : Nat → Int32} {u v w u' v' u0 v0 : xk_St} {T : List (Nat × List Nat × List Nat)} {F : List Nat} {G : List (Nat × Nat × Nat × Int64)} {L W0 : List Nat} {n fu tc mc lim p q len f D k tn tn' j d b g m : Nat} {z : Nat → Nat} {LL : Nat → List Nat} {AA : Nat → sBo} {tt : Nat → Nat} {H H' : rH} {fs r rr : List rFr} {x x' : rFr} {c : Nat × List Nat × List Nat} {y : Nat × sIn} {Q Qn Q1 : List sFr} {P : List rFr → Nat → Prop} {R : List Nat}
theorem hs_num {o : Nat} (ho : 67 ≤ o) (ho2 : o < 208) : fm_Machine_step fu (nI o) (nI k) u = fm_Machine_doNumeric fu (nI o) u := by
  unfold fm_Machine_step
  rw [if_pos (show (16 : Int32) ≤ nI o from nI_le (a := 16) (by omega) (by omega)), if_pos (show (40 : Int32) ≤ nI o from nI_le (a := 40) (by omega) (by omega)), if_pos (show (64 : Int32) < nI o from (nI_ltI (a := 64) (by omega) (by omega)).mpr (by omega)), if_pos (show (66 : Int32) < nI o from (nI_ltI (a := 66) (by omega) (by omega)).mpr (by omega)), if_neg (show ¬ (208 : Int32) ≤ nI o from fun y => by have := (nI_leI (a := 208) (by omega) (by omega)).mp y; omega), xs_id]
theorem mr_num {o : Nat} (h8 : w.1 8 = nI o) (ho : 65 ≤ o) (ho2 : o < 208) : mr_st fu w = fm_Model_doNumbers fu w := by
  unfold mr_st
  rw [h8, if_pos (show (32 : Int32) ≤ nI o from nI_le (a := 32) (by omega) (by omega)), if_pos (show (40 : Int32) ≤ nI o from nI_le (a := 40) (by omega) (by omega)), if_pos (show (65 : Int32) ≤ nI o from nI_le (a := 65) (by omega) (by omega)), if_neg (fun y => by have := (nI_leI (a := 208) (by omega) (by omega)).mp y; omega)]
theorem n_cmp {s0 : Int32} (a b : Int64) : ∃ r, (r = 0 ∨ r = 1) ∧ (∀ u, fm_Numbers_holds s0 a b u = some (r, u)) ∧ ∀ v, fm_Model_compares s0 a b v = some (r, v) := by
  have hB : ∀ x y u, fm_Numbers_isBelow x y u = some (if (y + (-9223372036854775808 : Int64)) ≤ (x + (-9223372036854775808 : Int64)) then 0 else 1, u) := fun x y u => by
    unfold fm_Numbers_isBelow
    by_cases c : (y + (-9223372036854775808 : Int64)) ≤ (x + (-9223372036854775808 : Int64))
    · rw [if_pos c, if_pos c]
    · rw [if_neg c, if_neg c]
  have mB : ∀ x y u, fm_Model_isBelow x y u = some (if (y + (-9223372036854775808 : Int64)) ≤ (x + (-9223372036854775808 : Int64)) then 0 else 1, u) := fun x y u => by
    unfold fm_Model_isBelow
    by_cases c : (y + (-9223372036854775808 : Int64)) ≤ (x + (-9223372036854775808 : Int64))
    · rw [if_pos c, if_pos c]
    · rw [if_neg c, if_neg c]
  have e01 : ∀ (p : Prop) [Decidable p], (if p then (0 : Int32) else 1) = 0 ∨ (if p then (0 : Int32) else 1) = 1 := fun p _ => by
    by_cases c : p
    · rw [if_pos c]; exact Or.inl rfl
    · rw [if_neg c]; exact Or.inr rfl
  have fl : ∀ (x y : Int64) (p : Prop) [Decidable p], True → True := fun _ _ _ _ _ => trivial
  by_cases c0 : s0 = 0
  · refine ⟨if a = b then 1 else 0, ?_, fun u => ?_, fun u => ?_⟩
    · by_cases c : a = b
      · rw [if_pos c]; exact Or.inr rfl
      · rw [if_neg c]; exact Or.inl rfl
    · unfold fm_Numbers_holds
      rw [if_pos c0]
      by_cases c : a = b
      · rw [if_pos c, if_pos c]
      · rw [if_neg c, if_neg c]
    · unfold fm_Model_compares
      rw [if_pos c0]
      by_cases c : a = b
      · rw [if_pos c, if_pos c]
      · rw [if_neg c, if_neg c]
  by_cases c1 : s0 = 1
  · refine ⟨if a = b then 0 else 1, e01 _, fun u => ?_, fun u => ?_⟩
    · unfold fm_Numbers_holds
      rw [if_neg c0, if_pos c1]
      by_cases c : a = b
      · rw [if_pos c, if_pos c]
      · rw [if_neg c, if_neg c]
    · unfold fm_Model_compares
      rw [if_neg c0, if_pos c1]
      by_cases c : a = b
      · rw [if_pos c, if_pos c]
      · rw [if_neg c, if_neg c]
  by_cases c2 : s0 = 2
  · refine ⟨if b ≤ a then 0 else 1, e01 _, fun u => ?_, fun u => ?_⟩
    · unfold fm_Numbers_holds
      rw [if_neg c0, if_neg c1, if_pos c2]
      by_cases c : b ≤ a
      · rw [if_pos c, if_pos c]
      · rw [if_neg c, if_neg c]
    · unfold fm_Model_compares
      rw [if_neg c0, if_neg c1, if_pos c2]
      by_cases c : b ≤ a
      · rw [if_pos c, if_pos c]
      · rw [if_neg c, if_neg c]
  by_cases c3 : s0 = 3
  · refine ⟨_, e01 ((b + (-9223372036854775808 : Int64)) ≤ (a + (-9223372036854775808 : Int64))), fun u => ?_, fun u => ?_⟩
    · unfold fm_Numbers_holds
      rw [if_neg c0, if_neg c1, if_neg c2, if_pos c3, hB, ys_seq, if_pos (e01 _)]
    · unfold fm_Model_compares
      rw [if_neg c0, if_neg c1, if_neg c2, if_pos c3, mB, ys_seq, if_pos (e01 _)]
  by_cases c4 : s0 = 4
  · refine ⟨if a ≤ b then 0 else 1, e01 _, fun u => ?_, fun u => ?_⟩
    · unfold fm_Numbers_holds
      rw [if_neg c0, if_neg c1, if_neg c2, if_neg c3, if_pos c4]
      by_cases c : a ≤ b
      · rw [if_pos c, if_pos c]
      · rw [if_neg c, if_neg c]
    · unfold fm_Model_compares
      rw [if_neg c0, if_neg c1, if_neg c2, if_neg c3, if_pos c4]
      by_cases c : a ≤ b
      · rw [if_pos c, if_pos c]
      · rw [if_neg c, if_neg c]
  by_cases c5 : s0 = 5
  · refine ⟨_, e01 ((a + (-9223372036854775808 : Int64)) ≤ (b + (-9223372036854775808 : Int64))), fun u => ?_, fun u => ?_⟩
    · unfold fm_Numbers_holds
      rw [if_neg c0, if_neg c1, if_neg c2, if_neg c3, if_neg c4, if_pos c5, hB, ys_seq, if_pos (e01 _)]
    · unfold fm_Model_compares
      rw [if_neg c0, if_neg c1, if_neg c2, if_neg c3, if_neg c4, if_pos c5, mB, ys_seq, if_pos (e01 _)]
  by_cases c6 : s0 = 6
  · refine ⟨if b < a then 0 else 1, e01 _, fun u => ?_, fun u => ?_⟩
    · unfold fm_Numbers_holds
      rw [if_neg c0, if_neg c1, if_neg c2, if_neg c3, if_neg c4, if_neg c5, if_pos c6]
      by_cases c : b < a
      · rw [if_pos c, if_pos c]
      · rw [if_neg c, if_neg c]
    · unfold fm_Model_compares
      rw [if_neg c0, if_neg c1, if_neg c2, if_neg c3, if_neg c4, if_neg c5, if_pos c6]
      by_cases c : b < a
      · rw [if_pos c, if_pos c]
      · rw [if_neg c, if_neg c]
  by_cases c7 : s0 = 7
  · refine ⟨if (a + (-9223372036854775808 : Int64)) ≤ (b + (-9223372036854775808 : Int64)) then 1 else 0, ?_, fun u => ?_, fun u => ?_⟩
    · by_cases c : (a + (-9223372036854775808 : Int64)) ≤ (b + (-9223372036854775808 : Int64))
      · rw [if_pos c]; exact Or.inr rfl
      · rw [if_neg c]; exact Or.inl rfl
    · unfold fm_Numbers_holds
      rw [if_neg c0, if_neg c1, if_neg c2, if_neg c3, if_neg c4, if_neg c5, if_neg c6, if_pos c7, hB, ys_seq]
      by_cases c : (a + (-9223372036854775808 : Int64)) ≤ (b + (-9223372036854775808 : Int64))
      · rw [if_pos c, if_pos c, if_pos rfl]
      · rw [if_neg c, if_neg c, if_neg (by decide)]
    · unfold fm_Model_compares
      rw [if_neg c0, if_neg c1, if_neg c2, if_neg c3, if_neg c4, if_neg c5, if_neg c6, if_pos c7, mB, ys_seq]
      by_cases c : (a + (-9223372036854775808 : Int64)) ≤ (b + (-9223372036854775808 : Int64))
      · rw [if_pos c, if_pos c, if_pos rfl]
      · rw [if_neg c, if_neg c, if_neg (by decide)]
  by_cases c8 : s0 = 8
  · refine ⟨if a < b then 0 else 1, e01 _, fun u => ?_, fun u => ?_⟩
    · unfold fm_Numbers_holds
      rw [if_neg c0, if_neg c1, if_neg c2, if_neg c3, if_neg c4, if_neg c5, if_neg c6, if_neg c7, if_pos c8]
      by_cases c : a < b
      · rw [if_pos c, if_pos c]
      · rw [if_neg c, if_neg c]
    · unfold fm_Model_compares
      rw [if_neg c0, if_neg c1, if_neg c2, if_neg c3, if_neg c4, if_neg c5, if_neg c6, if_neg c7, if_pos c8]
      by_cases c : a < b
      · rw [if_pos c, if_pos c]
      · rw [if_neg c, if_neg c]
  · refine ⟨if (b + (-9223372036854775808 : Int64)) ≤ (a + (-9223372036854775808 : Int64)) then 1 else 0, ?_, fun u => ?_, fun u => ?_⟩
    · by_cases c : (b + (-9223372036854775808 : Int64)) ≤ (a + (-9223372036854775808 : Int64))
      · rw [if_pos c]; exact Or.inr rfl
      · rw [if_neg c]; exact Or.inl rfl
    · unfold fm_Numbers_holds
      rw [if_neg c0, if_neg c1, if_neg c2, if_neg c3, if_neg c4, if_neg c5, if_neg c6, if_neg c7, if_neg c8, hB, ys_seq]
      by_cases c : (b + (-9223372036854775808 : Int64)) ≤ (a + (-9223372036854775808 : Int64))
      · rw [if_pos c, if_pos c, if_pos rfl]
      · rw [if_neg c, if_neg c, if_neg (by decide)]
    · unfold fm_Model_compares
      rw [if_neg c0, if_neg c1, if_neg c2, if_neg c3, if_neg c4, if_neg c5, if_neg c6, if_neg c7, if_neg c8, mB, ys_seq]
      by_cases c : (b + (-9223372036854775808 : Int64)) ≤ (a + (-9223372036854775808 : Int64))
      · rw [if_pos c, if_pos c, if_pos rfl]
      · rw [if_neg c, if_neg c, if_neg (by decide)]
/-- the instructions on numbers alone -/
def oN (o : Nat) : Bool := o == 69 || (Nat.ble 70 o && Nat.ble o 90) || (Nat.ble 103 o && Nat.ble o 138) || o == 167 || o == 172 || o == 173 || (Nat.ble 192 o && Nat.ble o 196)
theorem o_num0 : ∀ o, o < 208 → o < 67 ∨ xt_S o = 45 ∨ xt_S o = 33 ∨ oN o = true := by decide +kernel
theorem o_num {o : Nat} (h : o < 208) (h1 : 67 ≤ o) (h2 : ¬ xt_S o = 45) (h3 : ¬ xt_S o = 33) : o = 69 ∨ (70 ≤ o ∧ o ≤ 90) ∨ (103 ≤ o ∧ o ≤ 138) ∨ o = 167 ∨ o = 172 ∨ o = 173 ∨ (192 ≤ o ∧ o ≤ 196) := by
  rcases o_num0 o h with t | t | t | t
  · omega
  · exact absurd t h2
  · exact absurd t h3
  · unfold oN at t
    simp only [Bool.or_eq_true, Bool.and_eq_true, beq_iff_eq, Nat.ble_eq] at t
    omega
end
