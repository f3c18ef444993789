section
variable {α β γ δ σ τ : Type} {u v w u' v' u0 v0 u1 v1 : xk_St} {T : List (Nat × List Nat × List Nat)} {F : List Nat} {G : List (Nat × Nat × Nat × Int64)} {n fu p q k j d b g m i t : Nat} {H H' : rH} {c : Nat} {e : Nat × Nat × Nat × Nat} {ms pl : List Nat} {W : List Nat}
theorem hK_0 : hK ms H 0 = [] := rfl
theorem CIh_0 (hz : RHz T H u0 v0) (h30 : u1.1 30 = u0.1 30) (h44 : u1.2.2.1 44 = u0.2.2.1 44) (hM : MkH H ms u1) : CIh T H ms 0 u1 u1 := by
  obtain ⟨m, m1, m2, q, q1, q2⟩ := hz.2.2.2.1
  refine ⟨yf_refl, (fun j e hj => by cases hj), fun c _ => ⟨rfl, rfl⟩, fun k e _ _ => ⟨rfl, rfl⟩, ⟨m, h30.trans m1, by rw [hK_0]; show m + (0 + (H.length - 0)) = 2000; omega, q, fun i hi => ?_, q2⟩, fun i hi => ?_⟩
  · obtain ⟨a1, a2, a3, a4⟩ := q1 i hi
    rw [h44]
    exact ⟨a1, a2, a3, fun k e he _ => a4 k e he⟩
  · rcases hM.2.2.2.2 i hi with q | ⟨k, e, k1, k2⟩
    · exact Or.inl q
    · exact Or.inr ⟨k, e, by omega, k1, k2⟩
/-- the class moves its objects together -/
theorem hc_move (hz : RHz T H u0 v0) (hf : yf_fr [31] [] [43, 45] [] u0 u1) (h39 : ∀ (k : Nat) e i, H[k]? = some e → i < e.2.2.2 → u0.2.2.1 39 (hS (H.take k) + 1 + i) = 0 ∨ u0.2.2.1 39 (hS (H.take k) + 1 + i) = 1) (hM : MkH H ms u1) : ∀ (j t n : Nat) (u : xk_St), t + j = H.length → j < n → CIh T H ms t u1 u → ∃ u', jb_Heap_moveTogether_4 fu n (nI (hS (hK ms H t))) (nI (hS (H.take t))) u = some ((), xs_I u' 32 (nI (hS (hK ms H H.length)))) ∧ CIh T H ms H.length u1 u' := by
  have h2000 := hz.1.2.2.1
  intro j
  induction j with
  | zero =>
    intro t n u htj hn hI
    obtain ⟨n, rfl⟩ : ∃ f, n = f + 1 := ⟨n - 1, by omega⟩
    have ht : t = H.length := by omega
    subst ht
    refine ⟨u, ?_, hI⟩
    unfold jb_Heap_moveTogether_4
    simp only [xs_let]
    rw [hI.1.1 32 (by decide), hf.1 32 (by decide), hz.1.1, List.take_of_length_le (Nat.le_refl _), if_pos (nI_le (by omega) (by omega))]
  | succ j ih =>
    intro t n u htj hn hI
    obtain ⟨n, rfl⟩ : ∃ f, n = f + 1 := ⟨n - 1, by omega⟩
    obtain ⟨e, he⟩ : ∃ e, H[t]? = some e := ⟨_, List.getElem?_eq_getElem (by omega)⟩
    obtain ⟨⟨b1, b2, b3⟩, ⟨o1, o2, o3, o4, o5⟩, -⟩ := hz.2.1 t e he
    have htop := hS_top he
    have hst := hS_at he
    obtain ⟨l1, l2⟩ := hK_le (ms := ms) (H := H) (t := t) (by omega)
    have u12 : u.2.2.2 12 (hS (H.take t)) = lN e.1 := by
      rw [(hI.2.2.1 _ (Nat.le_refl _)).1, hf.2.2.2 12 (by simp)]; exact o4
    have u41 : u.2.2.1 41 e.1 = nI e.2.2.2 := by
      rw [hI.1.2.2.1 41 (by decide), hf.2.2.1 41 (by decide)]; exact o2
    have u43 : u.2.2.1 43 e.1 = if t ∈ ms then 1 else 0 := by
      rw [(hI.2.2.2.1 t e (Nat.le_refl _) he).2]; exact hM.2.2.2.1 t e he
    have u32 : u.1 32 = nI (hS H) := by rw [hI.1.1 32 (by decide), hf.1 32 (by decide)]; exact hz.1.1
    have hi32 : (lN e.1).toInt32 = nI e.1 := sb_nLi (by omega)
    have step : ∀ (x : Option (Unit × xk_St)), (if t ∈ ms then jb_Heap_moveTogether_4 fu n (nI (hS (hK ms H t) + (1 + e.2.2.2))) (nI (hS (H.take t) + (1 + e.2.2.2))) (uK u e.1 (hS (hK ms H t)) (hS (H.take t)) (1 + e.2.2.2)) else (if u.1 30 < 0 ∨ 2000 ≤ (u.1 30).toNatClampNeg then none else jb_Heap_moveTogether_4 fu n (nI (hS (hK ms H t))) (nI (hS (H.take t) + (1 + e.2.2.2))) (xs_I (xs_A u 44 (u.1 30).toNatClampNeg (nI e.1)) 30 (u.1 30 + 1)))) = x → jb_Heap_moveTogether_4 fu (n + 1) (nI (hS (hK ms H t))) (nI (hS (H.take t))) u = x := by
      intro x hx
      rw [← hx]
      conv => lhs; unfold jb_Heap_moveTogether_4
      simp only [xs_let]
      unfold jb_Heap_moveTogether_129
      simp only [xs_let]
      rw [u32, if_neg (fun t => by have := (nI_leI (by omega) (by omega)).mp t; omega), ix2000 (by omega), show (nI (hS (H.take t))).toNatClampNeg = hS (H.take t) from nI_clamp (by omega), u12, hi32, ix2001 (by omega), ix2001 (by omega), ix2001 (by omega), show (nI e.1).toNatClampNeg = e.1 from nI_clamp (by omega), u43, u41, show (1 : Int32) + nI e.2.2.2 = nI (1 + e.2.2.2) from nI_add 1 _, nI_add]
      by_cases hm : t ∈ ms
      · rw [if_pos hm, if_pos hm, if_neg (by decide), if_neg (nI_inc (by omega) (by decide)), nI_add]
        rw [show (nI (hS (hK ms H t))).toNatClampNeg = hS (hK ms H t) from nI_clamp (by omega), show (nI (1 + e.2.2.2)).toNatClampNeg = 1 + e.2.2.2 from nI_clamp (by omega)]
        have hng : ¬ (nI (hS (H.take t)) < 0 ∨ nI (hS (hK ms H t)) < 0 ∨ nI (1 + e.2.2.2) < 0 ∨ 2000 < hS (H.take t) + (1 + e.2.2.2) ∨ 2000 < hS (hK ms H t) + (1 + e.2.2.2)) := by
          rintro (q | q | q | q | q)
          · exact nI_inc (k := hS (H.take t)) (N := 100000) (by omega) (by decide) (Or.inl q)
          · exact nI_inc (k := hS (hK ms H t)) (N := 100000) (by omega) (by decide) (Or.inl q)
          · exact nI_inc (k := 1 + e.2.2.2) (N := 100000) (by omega) (by decide) (Or.inl q)
          · omega
          · omega
        rw [if_neg hng, if_neg hng]
        have hfit : ∀ i, i < 1 + e.2.2.2 → fits .boolean (.int (u.2.2.1 39 (hS (H.take t) + i))) = true := fun i hi => by
          refine bo_fit ?_
          rw [(hI.2.2.1 _ (by omega)).2, hf.2.2.1 39 (by decide)]
          by_cases q : i = 0
          · rw [q, Nat.add_zero]; exact Or.inl o5
          · have := h39 t e (i - 1) he (by omega)
            rw [show hS (H.take t) + 1 + (i - 1) = hS (H.take t) + i by omega] at this
            exact this
        refine (xs_ifp hfit).trans ?_
        rw [bo_01 (Or.inl rfl)]
        rfl
      · rw [if_neg hm, if_neg hm, if_pos rfl]; rfl
    by_cases hm : t ∈ ms
    · have hI' := CIh_s hz hI he hm
      obtain ⟨u', r1, r2⟩ := ih (t + 1) n (uK u e.1 (hS (hK ms H t)) (hS (H.take t)) (1 + e.2.2.2)) (by omega) (by omega) hI'
      refine ⟨u', step _ ?_, r2⟩
      rw [if_pos hm]
      have e1 : hS (hK ms H (t + 1)) = hS (hK ms H t) + (1 + e.2.2.2) := by
        rw [hK_s he hm, hS_app]
        have : hS [e] = 1 + e.2.2.2 + 0 := rfl
        omega
      rw [e1, hst, show hS (H.take t) + 1 + e.2.2.2 = hS (H.take t) + (1 + e.2.2.2) by omega] at r1
      exact r1
    · rw [if_neg hm] at u43
      obtain ⟨m, m1, m2, hI'⟩ := CIh_n hz hI he hm u43
      obtain ⟨u', r1, r2⟩ := ih (t + 1) n _ (by omega) (by omega) hI'
      refine ⟨u', step _ ?_, r2⟩
      rw [if_neg hm, m1, ix2000 m2, show (nI m).toNatClampNeg = m from nI_clamp (by omega), nI_1]
      rw [hK_n hm, hst, show hS (H.take t) + 1 + e.2.2.2 = hS (H.take t) + (1 + e.2.2.2) by omega] at r1
      exact r1
end
