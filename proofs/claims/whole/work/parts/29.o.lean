section
variable {α β γ δ σ τ : Type} {u v w u0 : xk_St} {g : Nat → Nat} {T : List (Nat × List Nat × List Nat)} {F : List Nat} {G : List (Nat × Nat × Nat × Int64)} {L : List Nat} {n fu tc mc : Nat} {Q Q' : List sFr} {s : Option (List sFr)}
theorem mm_fn63 {t : Nat} (hE : yTM T v) (ht : t < 2 ^ 63) : (yv_fn T t → fm_Model_isFunctionType (lN t) v = some (1, v)) ∧ (¬ yv_fn T t → fm_Model_isFunctionType (lN t) v = some (0, v)) := by
  by_cases z : t < 2 ^ 32
  · exact mm_isFn z hE.2.1.1 hE.1 (yTM_K hE)
  · have h64 := hE.2.1.1
    have hno : ¬ yv_fn T t := fun ⟨c, hc, _⟩ => by have := yl_lt hc; omega
    refine ⟨fun y => absurd y hno, fun _ => ?_⟩
    unfold fm_Model_isFunctionType
    rw [hE.1, nI_toL (by omega), if_pos ((pk_lLE (by omega) ht).mpr (by omega))]
theorem mb_ok {t : Option Nat ⊕ Int64} (hE : yTM T v) (hr : sb_rd t) : (sb_ok T t → fm_Model_isBlockType (yb_m t) v = some (1, v)) ∧ (¬ sb_ok T t → fm_Model_isBlockType (yb_m t) v = some (0, v)) := by
  unfold fm_Model_isBlockType jb_Model_isBlockType_31
  rcases t with (_ | c) | x
  · show (_ → (if (0 : Int64) ≤ -1 then _ else _) = _) ∧ _
    rw [show yb_m (.inl none) = (-1 : Int64) from rfl, if_neg (by decide), if_pos rfl]
    exact ⟨fun _ => rfl, fun h => absurd trivial h⟩
  · obtain ⟨r1, r2, r3⟩ := hr
    obtain ⟨n1, n2, n3⟩ := lN_neg2 c r2
    obtain ⟨m1, m2⟩ := mm_there (T := T) (u := v) (x := c) (n := T.length) r2 hE.2.1.1 (Nat.le_refl _) (yTM_K hE)
    have e : yb_m (.inl (some c)) = -2 - lN c := rfl
    have n4 : ¬ (-2 - lN c : Int64) = -1 := fun y => n2 (by rw [y]; exact Int64.le_refl _)
    rw [e, if_neg n1, if_neg n4, n3, hE.1]
    by_cases z : yv_in T T.length c
    · rw [m1 z, ys_seq, if_neg (show ¬ (1 : Int32) = 0 by decide)]
      exact ⟨fun _ => rfl, fun h => absurd z h⟩
    · rw [m2 z, ys_seq, if_pos rfl]
      exact ⟨fun h => absurd h z, fun _ => rfl⟩
  · have hx0 : (0 : Int64) ≤ x := hr
    obtain ⟨k, hk, rfl⟩ := pk_lOf (x := x) (fun y => absurd hx0 (Int64.not_le.mpr y))
    have e : sb_n (lN k) = k := yx_lN hk
    have e2 : yb_m (.inr (lN k)) = lN k := rfl
    obtain ⟨m1, m2⟩ := mm_fn63 (T := T) (v := v) (t := k) hE hk
    rw [e2, if_pos hx0]
    by_cases z : yv_fn T k
    · rw [m1 z, ys_seq, if_pos (Or.inr rfl)]
      exact ⟨fun _ => rfl, fun h => absurd ⟨hx0, by rw [e]; exact z⟩ h⟩
    · rw [m2 z, ys_seq, if_pos (Or.inl rfl)]
      exact ⟨fun h => absurd (by have := h.2; rw [e] at this; exact this) z, fun _ => rfl⟩
end
