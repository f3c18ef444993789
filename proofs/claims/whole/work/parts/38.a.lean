section
variable {α β γ δ σ τ : Type} {B : Nat → Int32} {u v w u' v' u0 v0 : xk_St} {T : List (Nat × List Nat × List Nat)} {F : List Nat} {G : List (Nat × Nat × Nat × Int64)} {L W0 : List Nat} {n fu tc mc lim p q len f D k tn tn' j d b g m : Nat} {z : Nat → Nat} {LL : Nat → List Nat} {AA : Nat → sBo} {tt : Nat → Nat} {H H' : rH} {fs r rr : List rFr} {x x' : rFr} {c : Nat × List Nat × List Nat} {y : Nat × sIn} {Q Qn Q1 : List sFr} {P : List rFr → Nat → Prop} {R : List Nat}
/-- bytes, the lowest first, as a number -/
def mbN (f : Nat → Nat) : Nat → Nat
  | 0 => 0
  | n + 1 => mbN f n + f n * 2 ^ (8 * n)
theorem mb_lt {f : Nat → Nat} : ∀ n, (∀ i, i < n → f i < 256) → mbN f n < 2 ^ (8 * n) := by
  intro n
  induction n with
  | zero => intro _; exact Nat.one_pos
  | succ n ih =>
    intro h
    have h1 := ih fun i hi => h i (by omega)
    have h2 := h n (by omega)
    show mbN f n + f n * 2 ^ (8 * n) < 2 ^ (8 * (n + 1))
    have : (2 : Nat) ^ (8 * (n + 1)) = 256 * 2 ^ (8 * n) := by rw [Nat.mul_add, Nat.pow_add, Nat.mul_comm]
    rw [this]
    have : f n * 2 ^ (8 * n) ≤ 255 * 2 ^ (8 * n) := Nat.mul_le_mul_right _ (by omega)
    omega
theorem mb_s {f : Nat → Nat} : ∀ n, mbN f (n + 1) = f 0 + 256 * mbN (fun i => f (i + 1)) n := by
  intro n
  induction n with
  | zero => show 0 + f 0 * 2 ^ 0 = f 0 + 256 * 0; omega
  | succ n ih =>
    show mbN f (n + 1) + f (n + 1) * 2 ^ (8 * (n + 1)) = f 0 + 256 * (mbN (fun i => f (i + 1)) n + f (n + 1) * 2 ^ (8 * n))
    have : (2 : Nat) ^ (8 * (n + 1)) = 256 * 2 ^ (8 * n) := by rw [Nat.mul_add, Nat.pow_add, Nat.mul_comm]
    rw [ih, this, Nat.mul_add 256, Nat.mul_left_comm]
    omega
theorem by_255 (x : Int32) : ∃ b, b < 256 ∧ x.toInt64 &&& 255 = lN b := by
  refine ⟨x.toInt64.toBitVec.toNat % 256, Nat.mod_lt _ (by decide), ?_⟩
  apply tn_inj
  rw [tn_and]
  have e : (255 : Int64).toBitVec.toNat = 2 ^ 8 - 1 := by decide
  rw [e, Nat.and_two_pow_sub_one_eq_mod]
  show _ = x.toInt64.toBitVec.toNat % 256 % 2 ^ 64
  omega
/-- the byte at a place of the memory -/
noncomputable def byN (A : Nat → Int32) (i : Nat) : Nat := Classical.choose (by_255 (A i))
theorem by_s (A : Nat → Int32) (i : Nat) : byN A i < 256 ∧ (A i).toInt64 &&& 255 = lN (byN A i) := Classical.choose_spec (by_255 (A i))
theorem ix64k {α : Type} {k : Nat} {o : Option (α × xk_St)} (hk : k < 65536) : (if nI k < 0 ∨ 65536 ≤ (nI k).toNatClampNeg then none else o) = o := if_neg (nI_in (N := 65536) hk (by decide))
theorem n8_mul : ∀ j, j < 9 → (8 : Int32) * nI j = nI (8 * j) := by decide +kernel
/-- the class takes a number out of the memory -/
theorem hm_taken {a wd : Nat} (ha : a + wd ≤ 65536) (hw : wd ≤ 8) : ∀ (d j n : Nat), j + d = wd → d < n → jb_Memory_taken_5 fu n (nI a) (nI wd) (lN (mbN (fun i => byN (u.2.2.1 46) (a + i)) j)) (nI j) u = some (lN (mbN (fun i => byN (u.2.2.1 46) (a + i)) wd), u) := by
  intro d
  induction d with
  | zero =>
    intro j n hj hn
    obtain ⟨n, rfl⟩ : ∃ m, n = m + 1 := ⟨n - 1, by omega⟩
    have : j = wd := by omega
    subst this
    unfold jb_Memory_taken_5
    rw [xl_eq, if_pos (Int32.le_refl _)]
  | succ d ih =>
    intro j n hj hn
    obtain ⟨n, rfl⟩ : ∃ m, n = m + 1 := ⟨n - 1, by omega⟩
    unfold jb_Memory_taken_5
    have hb := by_s (u.2.2.1 46) (a + j)
    have hlt := mb_lt (f := fun i => byN (u.2.2.1 46) (a + i)) j (fun i _ => (by_s _ _).1)
    have hlt1 := mb_lt (f := fun i => byN (u.2.2.1 46) (a + i)) (j + 1) (fun i _ => (by_s _ _).1)
    have h64 : (2 : Nat) ^ (8 * (j + 1)) ≤ 2 ^ 64 := Nat.pow_le_pow_right (by decide) (by omega)
    rw [xl_eq, if_neg (fun t => by have := (nI_leI (by omega) (by omega)).mp t; omega), nI_add, ix64k (by omega), show (nI (a + j)).toNatClampNeg = a + j from nI_clamp (by omega), hb.2, n8_mul j (by omega), wb_shl _ (by omega), xl_eq, xl_eq, nI_1, g_or' (k := 8 * j) rfl hlt (Nat.lt_of_lt_of_le hlt1 h64)]
    exact ih (j + 1) n (by omega) (by omega)
/-- and so does the reference, from above -/
theorem mm_213 {a wd : Nat} {b3 : Int64} (ha : a + wd ≤ 65536) (hw : wd ≤ 8) (hb3 : b3.toInt32 = nI a) : ∀ (j n : Nat), j ≤ wd → j < n → jb_Model_doMemory_213 fu n (lN (mbN (fun i => byN (v.2.2.1 27) (a + (j + i))) (wd - j))) b3 (nI wd) (nI j - 1) v = if v.1 8 = 40 then jb_Model_doMemory_272 fu (lN (mbN (fun i => byN (v.2.2.1 27) (a + i)) wd)) (nI wd) v else if v.1 8 ≤ 43 then jb_Model_doMemory_276 fu (lN (mbN (fun i => byN (v.2.2.1 27) (a + i)) wd)) (nI wd) v else if v.1 8 - v.1 8 / 2 * 2 = 0 then jb_Model_doMemory_272 fu (lN (mbN (fun i => byN (v.2.2.1 27) (a + i)) wd)) (nI wd) v else jb_Model_doMemory_276 fu (lN (mbN (fun i => byN (v.2.2.1 27) (a + i)) wd)) (nI wd) v := by
  intro j
  induction j with
  | zero =>
    intro n _ hn
    obtain ⟨n, rfl⟩ : ∃ m, n = m + 1 := ⟨n - 1, by omega⟩
    unfold jb_Model_doMemory_213
    rw [xl_eq, if_pos (by decide), if_neg (show ¬ (2 : Int32) = 0 by decide), Nat.sub_zero]
    simp only [Nat.zero_add]
  | succ j ih =>
    intro n hj hn
    obtain ⟨n, rfl⟩ : ∃ m, n = m + 1 := ⟨n - 1, by omega⟩
    unfold jb_Model_doMemory_213
    have hb := by_s (v.2.2.1 27) (a + j)
    have hlt := mb_lt (f := fun i => byN (v.2.2.1 27) (a + (j + 1 + i))) (wd - (j + 1)) (fun i _ => (by_s _ _).1)
    have h64 : (2 : Nat) ^ (8 * (wd - (j + 1))) ≤ 2 ^ 56 := Nat.pow_le_pow_right (by decide) (by omega)
    have e1 : nI (j + 1) - 1 = nI j := nI_pred j
    have e2 : nI j + (-1) = nI j - 1 := by rw [Int32.sub_eq_add_neg]
    have e3 : mbN (fun i => byN (v.2.2.1 27) (a + (j + i))) (wd - j) = byN (v.2.2.1 27) (a + j) + 256 * mbN (fun i => byN (v.2.2.1 27) (a + (j + 1 + i))) (wd - (j + 1)) := by
      rw [show wd - j = (wd - (j + 1)) + 1 by omega, mb_s]
      congr 3
      funext i
      rw [show j + (i + 1) = j + 1 + i by omega]
    have e4 : (lN (mbN (fun i => byN (v.2.2.1 27) (a + (j + 1 + i))) (wd - (j + 1))) <<< ((8 : Int32).toInt64 &&& 63)) ||| lN (byN (v.2.2.1 27) (a + j)) = lN (mbN (fun i => byN (v.2.2.1 27) (a + (j + i))) (wd - j)) := by
      have : lN (mbN (fun i => byN (v.2.2.1 27) (a + (j + 1 + i))) (wd - (j + 1))) <<< ((8 : Int32).toInt64 &&& 63) = lN (mbN (fun i => byN (v.2.2.1 27) (a + (j + 1 + i))) (wd - (j + 1)) * 2 ^ 8) := wb_shl _ (k := 8) (by decide)
      rw [this, g_or (k := 8) rfl (by have := hb.1; omega) (by have := hb.1; omega), e3]
      congr 1
      omega
    rw [xl_eq, e1, if_neg (fun t => nI_pos (n := j) (by omega) t), hb3, nI_add, ix64k (by omega), show (nI (a + j)).toNatClampNeg = a + j from nI_clamp (by omega), hb.2, xl_eq, xl_eq, e2, e4]
    exact ih n (by omega) (by omega)
end
