section
variable {α β γ δ σ τ : Type} {B : Nat → Int32} {u v w u' v' u0 v0 : xk_St} {T : List (Nat × List Nat × List Nat)} {F : List Nat} {G : List (Nat × Nat × Nat × Int64)} {L W0 : List Nat} {n fu tc mc lim p q len f D k tn tn' j d b g m : Nat} {z : Nat → Nat} {LL : Nat → List Nat} {AA : Nat → sBo} {tt : Nat → Nat} {H H' : rH} {fs r rr : List rFr} {x x' : rFr} {c : Nat × List Nat × List Nat} {y : Nat × sIn} {Q Qn Q1 : List sFr} {P : List rFr → Nat → Prop} {R : List Nat}
theorem sr31 (x : Int64) : (x >>> (31 : Int64)).toInt = x.toInt / 2 ^ 31 := by
  have h : (x >>> (31 : Int64)).toBitVec = x.toBitVec.sshiftRight 31 := by
    rw [Int64.toBitVec_shiftRight]; rfl
  show (x >>> (31 : Int64)).toBitVec.toInt = _
  rw [h, BitVec.toInt_sshiftRight, Int.shiftRight_eq_div_pow]
  rfl
theorem fits32 (x : Int64) (h1 : -2147483648 ≤ x.toInt) (h2 : x.toInt < 2147483648) : x.toInt32.toInt64 = x := by
  apply Int64.toInt_inj.mp
  rw [Int32.toInt_toInt64, Int64.toInt_toInt32]
  refine Int.bmod_eq_of_le_mul_two ?_ ?_
  · have : ((2 ^ 32 : Nat) : Int) = 4294967296 := rfl
    rw [this]; omega
  · have : ((2 ^ 32 : Nat) : Int) = 4294967296 := rfl
    rw [this]; omega
theorem s31 (x : Int64) (h : x >>> ((nI (32 - 1)).toInt64 &&& 63) = 0 ∨ x >>> ((nI (32 - 1)).toInt64 &&& 63) = -1) : x.toInt32.toInt64 = x := by
  have e : ((nI (32 - 1)).toInt64 &&& 63) = (31 : Int64) := by decide +kernel
  rw [e] at h
  have hs := sr31 x
  rcases h with h | h
  · rw [h] at hs
    have hs : (0 : Int) = x.toInt / 2147483648 := hs
    exact fits32 x (by omega) (by omega)
  · rw [h] at hs
    have hs : (-1 : Int) = x.toInt / 2147483648 := hs
    exact fits32 x (by omega) (by omega)
theorem yp_Sg32 {lim : Nat} : ∀ (d k p : Nat) (v x : Int64) (q : Nat), yp_Sg B lim 32 d k p v = .inl (x, q) → x.toInt32.toInt64 = x := by
  intro d
  induction d with
  | zero => intro k p v x q h; unfold yp_Sg at h; cases h
  | succ d ih =>
    intro k p v x q h
    unfold yp_Sg at h
    by_cases c1 : 32 ≤ 7 * k
    · rw [if_pos c1] at h; cases h
    · rw [if_neg c1] at h
      by_cases c2 : lim ≤ p
      · rw [if_pos c2] at h; cases h
      · rw [if_neg c2] at h
        by_cases c3 : (128 : Int32) ≤ yb_b B p
        · rw [if_pos c3] at h
          exact ih _ _ _ _ _ h
        · rw [if_neg c3] at h
          unfold yp_Se at h
          rw [if_neg (by omega)] at h
          by_cases c4 : ((yw_w B p k v <<< ((nI (57 - 7 * k)).toInt64 &&& 63)) >>> ((nI (57 - 7 * k)).toInt64 &&& 63)) >>> ((nI (32 - 1)).toInt64 &&& 63) = 0 ∨ ((yw_w B p k v <<< ((nI (57 - 7 * k)).toInt64 &&& 63)) >>> ((nI (57 - 7 * k)).toInt64 &&& 63)) >>> ((nI (32 - 1)).toInt64 &&& 63) = -1
          · rw [if_pos c4] at h
            have h := Sum.inl.inj h
            injection h with h1 h2
            rw [← h1]
            exact s31 _ c4
          · rw [if_neg c4] at h; cases h
/-- the number of an 0x41 or 0x42 -/
theorem yp_insC {i : sIn} {lim : Nat} (h : yp_ins B lim p = .inl (i, q)) (hi : i.1 = 65 ∨ i.1 = 66) : ∃ x, i.2.1 = .inr x ∧ (i.1 = 65 → x.toInt32.toInt64 = x) := by
  unfold yp_ins at h
  obtain ⟨b, q1, h1, h⟩ := yp_thenI h
  by_cases zb : b = 251
  · rw [if_pos zb] at h
    obtain ⟨m, q2, h2, h⟩ := yp_thenI h
    by_cases z : m ≤ 30
    · rw [if_pos z] at h
      obtain ⟨j, q3, h3, h⟩ := yp_thenI h
      cases h
      have hi : 256 + m = 65 ∨ 256 + m = 66 := hi
      omega
    · rw [if_neg z] at h; cases h
  · rw [if_neg zb] at h
    obtain ⟨j, q3, h3, h⟩ := yp_thenI h
    cases h
    have hb : b.toNatClampNeg = 65 ∨ b.toNatClampNeg = 66 := hi
    rcases hb with hb | hb
    · rw [hb, show xt_S 65 = 105 by decide +kernel] at h3
      unfold yp_imm at h3
      rw [if_neg (by decide), if_neg (by decide), if_neg (by decide), if_neg (by decide), if_pos rfl] at h3
      obtain ⟨x, r1, k1, h3⟩ := yp_thenI h3
      cases h3
      exact ⟨x, rfl, fun _ => yp_Sg32 _ _ _ _ _ _ k1⟩
    · rw [hb, show xt_S 66 = 108 by decide +kernel] at h3
      unfold yp_imm at h3
      rw [if_neg (by decide), if_neg (by decide), if_neg (by decide), if_neg (by decide), if_neg (by decide), if_pos rfl] at h3
      obtain ⟨x, r1, k1, h3⟩ := yp_thenI h3
      cases h3
      exact ⟨x, rfl, fun t => by
        have t : b.toNatClampNeg = 65 := t
        omega⟩
theorem ri_const (h : rFt D B len T F tc mc G z LL AA tt H x r tn y Qn u v w) (hi : y.2.1 = 65 ∨ y.2.1 = 66) (hP : rPs P x r tn) : RZ D B len T F tc mc G z LL AA tt P R (fm_Machine_step fu (u.2.2.1 7 (kF z AA x)) (nI (kF z AA x)) (uF z AA x u)) (mr_st fu w) := by
  obtain ⟨c, e1, e2⟩ := yp_insC h.2.1.2.2.2.2.2.1 hi
  have hm : yb_m y.2.2.1 = c := by rw [e1]; rfl
  refine ri_65 h hi hP (fun t => by rw [hm]; exact e2 t) ?_
  have := h.2.1.2.2.1.2.2.2.2.2.2.2.2 (by omega)
  rw [this, hm]
  unfold ye_2
  rw [if_pos (by rcases hi with t | t <;> rw [t] <;> decide +kernel), e1]; rfl
/-- the locals of the innermost call, within the stacks -/
theorem rf_loc (h : rFt D B len T F tc mc G z LL AA tt H x r tn y Qn u v w) (hm : (LL x.1)[m]? = some d) : (fW LL r ++ (LL x.1 ++ sq_f x.2.2))[fN LL r + m]? = some d := by
  rw [List.getElem?_append_right (by rw [fW_len]; omega), fW_len, Nat.add_sub_cancel_left, List.getElem?_append_left (yl_lt hm)]
  exact hm
end
