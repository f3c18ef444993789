section
variable {α β γ δ σ τ : Type} {B : Nat → Int32} {u v w u' v' u0 v0 : xk_St} {T : List (Nat × List Nat × List Nat)} {F : List Nat} {G : List (Nat × Nat × Nat × Int64)} {L : List Nat} {n fu tc mc lim p q len f D k tn tn' j d b g m : Nat} {H H' : rH}
/-- zeros on the stack, by the class -/
theorem hp_zeros (hfu : 18000 < fu) (h28 : u.1 28 = nI n) (hn : n + m ≤ 18000) : ∃ u', fm_Values_pushZeros__h61 fu (nI m) u = some ((), u') ∧ yf_fr [28] [] [37] [10] u u' ∧ u'.1 28 = nI (n + m) ∧ (∀ i, n ≤ i → i < n + m → u'.2.2.2 10 i = 0 ∧ u'.2.2.1 37 i = 0) ∧ ∀ i, i < n → u'.2.2.2 10 i = u.2.2.2 10 i ∧ u'.2.2.1 37 i = u.2.2.1 37 i := by
  have fill : ∀ (d k n1 : Nat) (x : xk_St), k + d = n + m → n ≤ k → d < n1 → ∃ y, jb_Arrays_fill_AJIIJ__h62_10 fu n1 (nI (n + m)) 0 (nI k) x = some ((), y) ∧ yf_fr [] [] [] [10] x y ∧ (∀ i, k ≤ i → i < n + m → y.2.2.2 10 i = 0) ∧ ∀ i, i < k → y.2.2.2 10 i = x.2.2.2 10 i := by
    intro d
    induction d with
    | zero =>
      intro k n1 x hk hnk hd
      obtain ⟨n1, rfl⟩ : ∃ m, n1 = m + 1 := ⟨n1 - 1, by omega⟩
      unfold jb_Arrays_fill_AJIIJ__h62_10
      simp only [xs_let]
      rw [if_pos (nI_le (by omega) (by omega))]
      exact ⟨x, rfl, yf_refl, fun i h1 h2 => by omega, fun _ _ => rfl⟩
    | succ d ih =>
      intro k n1 x hk hnk hd
      obtain ⟨n1, rfl⟩ : ∃ m, n1 = m + 1 := ⟨n1 - 1, by omega⟩
      unfold jb_Arrays_fill_AJIIJ__h62_10
      simp only [xs_let]
      rw [if_neg (nI_ge (by omega) (by omega)), ix18 (by omega), nI_clamp (by omega), nI_1]
      obtain ⟨y, y1, y2, y3, y4⟩ := ih (k + 1) n1 (xs_B x 10 k 0) (by omega) (by omega) (by omega)
      refine ⟨y, y1, yf_trans (yf_B yf_refl (by decide)) y2, fun i h1 h2 => ?_, fun i hi => ?_⟩
      · by_cases zi : i = k
        · subst zi
          rw [y4 i (by omega)]
          show vp_updL (x.2.2.2 10) i 0 i = 0
          exact yb_t
        · exact y3 i (by omega) h2
      · rw [y4 i (by omega)]
        show vp_updL (x.2.2.2 10) k 0 i = _
        exact yb_j (by omega)
  obtain ⟨y, y1, y2, y3, y4⟩ := fill m n fu u (by omega) (Nat.le_refl _) (by omega)
  have marks : ∀ (d k n1 : Nat) (x : xk_St), k + d = m → d < n1 → x.1 28 = nI n → ∃ z, jb_Values_pushZeros__h61_20 fu n1 (nI m) (nI k) x = some ((), z) ∧ yf_fr [28] [] [37] [] x z ∧ z.1 28 = nI (n + m) ∧ (∀ i, n + k ≤ i → i < n + m → z.2.2.1 37 i = 0) ∧ ∀ i, i < n + k → z.2.2.1 37 i = x.2.2.1 37 i := by
    intro d
    induction d with
    | zero =>
      intro k n1 x hk hd hx
      obtain ⟨n1, rfl⟩ : ∃ m, n1 = m + 1 := ⟨n1 - 1, by omega⟩
      unfold jb_Values_pushZeros__h61_20
      simp only [xs_let]
      rw [if_pos (nI_le (by omega) (by omega)), hx, nI_add]
      exact ⟨_, rfl, yf_I yf_refl (by decide), rfl, fun i h1 h2 => by omega, fun _ _ => rfl⟩
    | succ d ih =>
      intro k n1 x hk hd hx
      obtain ⟨n1, rfl⟩ : ∃ m, n1 = m + 1 := ⟨n1 - 1, by omega⟩
      unfold jb_Values_pushZeros__h61_20
      simp only [xs_let]
      rw [if_neg (nI_ge (by omega) (by omega)), hx, nI_add, ix18 (by omega), nI_clamp (by omega), bo_0, nI_1]
      obtain ⟨w, w1, w2, w3, w4, w5⟩ := ih (k + 1) n1 (xs_A x 37 (n + k) 0) (by omega) (by omega) hx
      refine ⟨w, w1, yf_trans (yf_A yf_refl (by decide)) w2, w3, fun i h1 h2 => ?_, fun i hi => ?_⟩
      · by_cases zi : i = n + k
        · subst zi
          rw [w5 _ (by omega)]
          show upd (x.2.2.1 37) (n + k) 0 (n + k) = 0
          exact ya_t
        · exact w4 i (by omega) h2
      · rw [w5 i (by omega)]
        show upd (x.2.2.1 37) (n + k) 0 i = _
        exact ya_j (by omega)
  obtain ⟨w, w1, w2, w3, w4, w5⟩ := marks m 0 fu y (by omega) (by omega) ((y2.1 28 (by decide)).trans h28)
  refine ⟨w, ?_, yf_trans (yf_mono y2 (by decide)) (yf_mono w2 (by decide)), w3, fun i h1 h2 => ?_, fun i hi => ?_⟩
  · unfold fm_Values_pushZeros__h61 fm_Arrays_fill_AJIIJ__h62 fm_Arrays_rangeCheck__h
    rw [h28, nI_add, if_pos (nI_le (by omega) (by omega)), if_pos (show (0 : Int32) ≤ nI n from nI_le (a := 0) (by omega) (by omega)), if_pos (show nI (n + m) ≤ (18000 : Int32) from nI_le (b := 18000) (by omega) (by omega)), ys_seq, y1, ys_seq]
    exact w1
  · exact ⟨by rw [w2.2.2.2 10 (by decide)]; exact y3 i h1 h2, w4 i (by omega) h2⟩
  · exact ⟨by rw [w2.2.2.2 10 (by decide)]; exact y4 i hi, by rw [w5 i (by omega), y2.2.2.1 37 (by decide)]⟩
/-- the entries of declared locals, by the class -/
theorem hx_locals {sz : Nat} (hfu : 18000 < fu) (hsz : sz + 1 ≤ 8192) : ∀ (ls : List (Nat × Nat)) (i0 nn : Nat) (u : xk_St), (∀ (i : Nat) x, ls[i]? = some x → u.2.2.1 7 (sz + 1 + i0 + i) = 8 ∧ u.2.2.1 8 (sz + 1 + i0 + i) = nI (yn_c x.1)) → sz + 1 + i0 + ls.length ≤ 8192 → u.1 26 = nI (sz + 1 + i0) → u.1 27 = 0 → ¬ u.1 24 ≤ 0 → u.1 28 = nI nn → nn + (lD ls).length ≤ 18000 → (lD ls).length ≤ 200 → ∃ u', (∀ n b, b + ls.length < 2 ^ 63 → jb_Machine_run_29 fu (n + ls.length) (lN (b + ls.length)) u = jb_Machine_run_29 fu n (lN b) u') ∧ yf_fr [26, 28] [] [37] [10] u u' ∧ u'.1 26 = nI (sz + 1 + i0 + ls.length) ∧ u'.1 28 = nI (nn + (lD ls).length) ∧ (∀ i, nn ≤ i → i < nn + (lD ls).length → u'.2.2.2 10 i = 0 ∧ u'.2.2.1 37 i = 0) ∧ ∀ i, i < nn → u'.2.2.2 10 i = u.2.2.2 10 i ∧ u'.2.2.1 37 i = u.2.2.1 37 i := by
  intro ls
  induction ls with
  | nil =>
    intro i0 nn u _ _ h26 _ _ h28 _ _
    exact ⟨u, fun n b _ => rfl, yf_refl, h26, h28, fun i h1 h2 => by simp [lD] at h2; omega, fun _ _ => ⟨rfl, rfl⟩⟩
  | cons p ls ih =>
    intro i0 nn u hent hb h26 h27 h24 h28 hn h200
    have e : lD (p :: ls) = List.replicate p.1 p.2 ++ lD ls := by unfold lD; rw [List.flatMap_cons]
    have el : (lD (p :: ls)).length = p.1 + (lD ls).length := by rw [e, List.length_append, List.length_replicate]
    rw [List.length_cons] at hb
    rw [el] at hn h200 ⊢
    obtain ⟨a1, a2⟩ := hent 0 p rfl
    rw [Nat.add_zero] at a1 a2
    rw [yn_cs (by omega)] at a2
    generalize hu7 : xs_I u 26 (nI (sz + 1 + i0 + 1)) = u7
    have f7 : yf_fr [26] [] [] [] u u7 := by rw [← hu7]; exact yf_I yf_refl (by decide)
    obtain ⟨y, y1, y2, y3, y4, y5⟩ := hp_zeros (fu := fu) (m := p.1) hfu ((f7.1 28 (by decide)).trans h28) (by omega)
    have huy : yf_fr [26, 28] [] [37] [10] u y := yf_trans (yf_mono f7 (by decide)) (yf_mono y2 (by decide))
    have hstep : ∀ n b, b + 1 < 2 ^ 63 → jb_Machine_run_29 fu (n + 1) (lN (b + 1)) u = jb_Machine_run_29 fu n (lN b) y := fun n b hb63 => by
      conv => lhs; unfold jb_Machine_run_29
      simp only [xs_let]
      rw [if_neg (show ¬ lN (b + 1) ≤ 0 from fun t => by have := (pk_lLE (b := 0) hb63 (by decide)).mp t; omega), if_pos h27, if_neg h24, h26, nI_1, ix8192 (by omega), nI_clamp (by omega), hu7]
      have e7 : u7.2.2.1 7 (sz + 1 + i0) = 8 := by rw [f7.2.2.1 7 (by decide)]; exact a1
      have e8 : u7.2.2.1 8 (sz + 1 + i0) = nI p.1 := by rw [f7.2.2.1 8 (by decide)]; exact a2
      have est : fm_Machine_step fu (8 : Int32) (nI (sz + 1 + i0)) u7 = some ((), y) := by
        have : fm_Machine_step fu (8 : Int32) (nI (sz + 1 + i0)) u7 = xs_seq (if nI (sz + 1 + i0) < 0 ∨ 8192 ≤ (nI (sz + 1 + i0)).toNatClampNeg then none else xs_seq (fm_Values_pushZeros__h61 fu (u7.2.2.1 8 (nI (sz + 1 + i0)).toNatClampNeg) u7) fun _ u7 => some ((), u7)) fun _ u9 => some ((), u9) := rfl
        rw [this, ix8192 (by omega), nI_clamp (by omega), e8, y1, ys_seq, ys_seq]
      rw [e7, est, ys_seq, show lN (b + 1) - 1 = lN b from lN_sub (a := b + 1) (b := 1) (by omega)]
    obtain ⟨w, w1, w2, w3, w4, w5, w6⟩ := ih (i0 + 1) (nn + p.1) y (fun i x hx => by
      obtain ⟨c1, c2⟩ := hent (i + 1) x hx
      rw [huy.2.2.1 7 (by decide), huy.2.2.1 8 (by decide), show sz + 1 + (i0 + 1) + i = sz + 1 + i0 + (i + 1) by omega]
      exact ⟨c1, c2⟩) (by omega) (by rw [y2.1 26 (by decide), ← hu7]; rfl) ((huy.1 27 (by decide)).trans h27) (by rw [huy.1 24 (by decide)]; exact h24) y3 (by omega) (by omega)
    refine ⟨w, fun n b hb63 => ?_, yf_trans huy w2, ?_, ?_, fun i h1 h2 => ?_, fun i hi => ?_⟩
    · rw [List.length_cons] at hb63 ⊢
      rw [show n + (ls.length + 1) = (n + ls.length) + 1 by omega, show b + (ls.length + 1) = (b + ls.length) + 1 by omega, hstep _ _ (by omega)]
      exact w1 n b (by omega)
    · rw [w3, List.length_cons]; congr 1; omega
    · rw [w4]; congr 1; omega
    · by_cases zi : i < nn + p.1
      · rw [(w6 i zi).1, (w6 i zi).2]
        exact y4 i h1 zi
      · exact w5 i (by omega) (by omega)
    · rw [(w6 i (by omega)).1, (w6 i (by omega)).2, (y5 i hi).1, (y5 i hi).2, f7.2.2.2 10 (by decide), f7.2.2.1 37 (by decide)]
      exact ⟨rfl, rfl⟩
end
