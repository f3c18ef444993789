section
variable {α β γ δ σ τ : Type} {B : Nat → Int32} {u v w u' v' u0 v0 u1 v1 : xk_St} {T : List (Nat × List Nat × List Nat)} {F : List Nat} {G : List (Nat × Nat × Nat × Int64)} {n fu p q k j d b g m i t sz ix tc D len : Nat} {H H' : rH}
/-- the free numbers and the marks of the class's heap, at any rest -/
def hFr (u : xk_St) : Prop := (∃ m, u.1 30 = nI m ∧ m ≤ 2000 ∧ (m = 2000 → ∃ q : Nat → Nat, (∀ i, i < 2000 → u.2.2.1 44 i = nI (q i) ∧ 0 < q i ∧ q i ≤ 2000) ∧ ∀ i j, i < 2000 → j < 2000 → q i = q j → i = j)) ∧ ∀ i, i < 2001 → u.2.2.1 43 i = 0
/-- bytes behind the pages are 0 -/
def hMz (u : xk_St) : Prop := ∃ p, u.1 33 = nI p ∧ p ≤ 16 ∧ ∀ i, 4096 * p ≤ i → i < 65536 → u.2.2.1 46 i = 0
theorem hFr_of (h : RHp T H u v) : hFr u := by
  obtain ⟨-, -, -, ⟨m, m1, m2, q, q1, q2⟩, -, h6⟩ := h
  refine ⟨⟨m, m1, by omega, fun hm => ⟨q, fun i hi => ?_, fun i j hi hj => q2 i j (by omega) (by omega)⟩⟩, h6⟩
  obtain ⟨a1, a2, a3, -⟩ := q1 i (by omega)
  exact ⟨a1, a2, a3⟩
theorem hMz_of (h : RM u v) : hMz u := by
  obtain ⟨-, p, m, a1, -, -, -, a5, a6, a7⟩ := h
  exact ⟨p, a1, by omega, a7⟩
theorem hl_27 : ∀ (j i n : Nat) (u : xk_St), i + j = 2000 → j < n → ∃ u', jb_Heap_clear_27 fu n (nI i) u = some ((), u') ∧ yf_fr [] [] [44] [] u u' ∧ (∀ x, i ≤ x → x < 2000 → u'.2.2.1 44 x = nI (2000 - x)) ∧ ∀ x, x < i → u'.2.2.1 44 x = u.2.2.1 44 x := by
  intro j
  induction j with
  | zero =>
    intro i n u hij hn
    obtain ⟨n, rfl⟩ : ∃ f, n = f + 1 := ⟨n - 1, by omega⟩
    refine ⟨u, ?_, yf_refl, fun x h1 h2 => by omega, fun x _ => rfl⟩
    unfold jb_Heap_clear_27
    simp only [xs_let]
    rw [if_pos (show (2000 : Int32) ≤ nI i from nI_le (a := 2000) (by omega) (by omega))]
  | succ j ih =>
    intro i n u hij hn
    obtain ⟨n, rfl⟩ : ∃ f, n = f + 1 := ⟨n - 1, by omega⟩
    obtain ⟨u', r1, r2, r3, r4⟩ := ih (i + 1) n (xs_A u 44 i (nI (2000 - i))) (by omega) (by omega)
    refine ⟨u', ?_, yf_trans (yf_A yf_refl (by decide)) r2, fun x h1 h2 => ?_, fun x hx => ?_⟩
    · rw [← r1]
      conv => lhs; unfold jb_Heap_clear_27
      simp only [xs_let]
      rw [if_neg (show ¬ (2000 : Int32) ≤ nI i from fun t => by have := (nI_leI (a := 2000) (by omega) (by omega)).mp t; omega), ix2000 (by omega), show (nI i).toNatClampNeg = i from nI_clamp (by omega), nI_1, show (2000 : Int32) - nI i = nI (2000 - i) from pk_sub (a := 2000) (by omega)]
    · by_cases q : x = i
      · rw [r4 x (by omega)]
        show upd (u.2.2.1 44) i _ x = _
        rw [q, ya_t]
      · exact r3 x (by omega) h2
    · rw [r4 x (by omega)]
      show upd (u.2.2.1 44) i _ x = _
      rw [ya_j (by omega)]
theorem hl_heap (hfu : 2100 < fu) (h : hFr u) : ∃ u', fm_Heap_clear fu u = some ((), u') ∧ yf_fr [30, 32] [] [44] [] u u' ∧ u'.1 32 = 0 ∧ u'.1 30 = nI 2000 ∧ ∃ q : Nat → Nat, (∀ i, i < 2000 → u'.2.2.1 44 i = nI (q i) ∧ 0 < q i ∧ q i ≤ 2000) ∧ ∀ i j, i < 2000 → j < 2000 → q i = q j → i = j := by
  obtain ⟨⟨m, m1, m2, m3⟩, -⟩ := h
  unfold fm_Heap_clear
  simp only [xs_let]
  have w30 : (xs_I u 32 0).1 30 = nI m := m1
  rw [w30]
  by_cases c : 2000 ≤ m
  · have hm : m = 2000 := by omega
    subst hm
    rw [if_pos (show (2000 : Int32) ≤ nI 2000 from nI_le (a := 2000) (by omega) (by omega))]
    obtain ⟨q, q1, q2⟩ := m3 rfl
    exact ⟨_, rfl, yf_I yf_refl (by decide), rfl, m1, q, q1, q2⟩
  · rw [if_neg (show ¬ (2000 : Int32) ≤ nI m from fun t => by have := (nI_leI (a := 2000) (by omega) (by omega)).mp t; omega)]
    obtain ⟨u', r1, r2, r3, -⟩ := hl_27 (fu := fu) 2000 0 fu (xs_I (xs_I u 32 0) 30 2000) (by omega) (by omega)
    refine ⟨u', r1, yf_trans (yf_I (yf_I yf_refl (by decide)) (by decide)) (yf_mono r2 (by decide)), ?_, ?_, fun i => 2000 - i, fun i hi => ⟨r3 i (by omega) hi, by show 0 < 2000 - i; omega, by show 2000 - i ≤ 2000; omega⟩, fun i j hi hj hij => by have : 2000 - i = 2000 - j := hij; omega⟩
    · rw [r2.1 32 (by simp)]; rfl
    · rw [r2.1 30 (by simp)]; rfl
theorem hl_fill (hb : b ≤ 65536) : ∀ (j i n : Nat) (u : xk_St), i + j = b → j < n → ∃ u', jb_Arrays_fill_ABIIB__h78_10 fu n (nI b) 0 (nI i) u = some ((), u') ∧ yf_fr [] [] [46] [] u u' ∧ (∀ x, i ≤ x → x < b → u'.2.2.1 46 x = 0) ∧ ∀ x, x < i ∨ b ≤ x → u'.2.2.1 46 x = u.2.2.1 46 x := by
  intro j
  induction j with
  | zero =>
    intro i n u hij hn
    obtain ⟨n, rfl⟩ : ∃ f, n = f + 1 := ⟨n - 1, by omega⟩
    refine ⟨u, ?_, yf_refl, fun x h1 h2 => by omega, fun x _ => rfl⟩
    unfold jb_Arrays_fill_ABIIB__h78_10
    simp only [xs_let]
    rw [if_pos (nI_le (by omega) (by omega))]
  | succ j ih =>
    intro i n u hij hn
    obtain ⟨n, rfl⟩ : ∃ f, n = f + 1 := ⟨n - 1, by omega⟩
    obtain ⟨u', r1, r2, r3, r4⟩ := ih (i + 1) n (xs_A u 46 i 0) (by omega) (by omega)
    refine ⟨u', ?_, yf_trans (yf_A yf_refl (by decide)) r2, fun x h1 h2 => ?_, fun x hx => ?_⟩
    · rw [← r1]
      conv => lhs; unfold jb_Arrays_fill_ABIIB__h78_10
      simp only [xs_let]
      rw [if_neg (fun t => by have := (nI_leI (by omega) (by omega)).mp t; omega), ix64k (by omega), show (nI i).toNatClampNeg = i from nI_clamp (by omega), nI_1, show vp_nar .byte 0 = 0 from rfl]
    · by_cases q : x = i
      · rw [r4 x (by omega)]
        show upd (u.2.2.1 46) i 0 x = 0
        rw [q, ya_t]
      · exact r3 x (by omega) h2
    · rw [r4 x (by omega)]
      show upd (u.2.2.1 46) i 0 x = _
      rw [ya_j (by omega)]
theorem p4096i : ∀ p, p < 17 → (4096 : Int32) * nI p = nI (4096 * p) := by decide +kernel
theorem hl_mem (hfu : 70000 < fu) (h : hMz u) : ∃ u', fm_Memory_clear fu u = some ((), u') ∧ yf_fr [33, 34] [] [46] [] u u' ∧ u'.1 33 = 0 ∧ u'.1 34 = 0 ∧ ∀ i, i < 65536 → u'.2.2.1 46 i = 0 := by
  obtain ⟨p, p1, p2, p3⟩ := h
  obtain ⟨u', r1, r2, r3, r4⟩ := hl_fill (fu := fu) (b := 4096 * p) (by omega) (4096 * p) 0 fu u (by omega) (by omega)
  refine ⟨xs_I (xs_I u' 33 0) 34 0, ?_, yf_I (yf_I (yf_mono r2 (by decide)) (by decide)) (by decide), rfl, rfl, fun i hi => ?_⟩
  · unfold fm_Memory_clear fm_Arrays_fill_ABIIB__h78 fm_Arrays_rangeCheck__h
    rw [p1, p4096i p (by omega), if_pos (show (0 : Int32) ≤ nI (4096 * p) from nI_le (a := 0) (by omega) (by omega)), if_pos (by decide), if_pos (show nI (4096 * p) ≤ (65536 : Int32) from nI_le (b := 65536) (by omega) (by omega)), ys_seq]
    have r1' : jb_Arrays_fill_ABIIB__h78_10 fu fu (nI (4096 * p)) 0 0 u = _ := r1
    rw [r1', ys_seq]; rfl
  · show u'.2.2.1 46 i = 0
    by_cases q : i < 4096 * p
    · exact r3 i (by omega) q
    · rw [r4 i (by omega)]
      exact p3 i (by omega) hi
/-- all is empty before a module is read -/
theorem hl_clear (hfu : 70000 < fu) (hF : hFr u) (hM : hMz u) : ∃ uc u', fm_Mod_clear u = some ((), uc) ∧ fm_Machine_clear fu uc = some ((), u') ∧ yf_fr [5, 6, 7, 8, 9, 10, 11, 12, 13, 14, 15, 16, 28, 29, 30, 32, 33, 34] [] [44, 46] [] u u' ∧ (u'.1 5 = 0 ∧ u'.1 6 = -1 ∧ u'.1 7 = 0 ∧ u'.1 8 = 0 ∧ u'.1 9 = 0 ∧ u'.1 10 = 0 ∧ u'.1 11 = 0 ∧ u'.1 12 = 0 ∧ u'.1 13 = 0 ∧ u'.1 14 = 0 ∧ u'.1 15 = 0 ∧ u'.1 16 = 0) ∧ (u'.1 28 = 0 ∧ u'.1 29 = 0 ∧ u'.1 32 = 0 ∧ u'.1 33 = 0 ∧ u'.1 34 = 0) ∧ (∀ i, i < 65536 → u'.2.2.1 46 i = 0) ∧ u'.1 30 = nI 2000 ∧ (∃ q : Nat → Nat, (∀ i, i < 2000 → u'.2.2.1 44 i = nI (q i) ∧ 0 < q i ∧ q i ≤ 2000) ∧ ∀ i j, i < 2000 → j < 2000 → q i = q j → i = j) ∧ ∀ i, i < 2001 → u'.2.2.1 43 i = 0 := by
  obtain ⟨uc, hc, fc, hz⟩ : ∃ uc, fm_Mod_clear u = some ((), uc) ∧ yf_fr [5, 6, 7, 8, 9, 10, 11, 12, 13, 14, 15, 16] [] [] [] u uc ∧ (uc.1 5 = 0 ∧ uc.1 6 = -1 ∧ uc.1 7 = 0 ∧ uc.1 8 = 0 ∧ uc.1 9 = 0 ∧ uc.1 10 = 0 ∧ uc.1 11 = 0 ∧ uc.1 12 = 0 ∧ uc.1 13 = 0 ∧ uc.1 14 = 0 ∧ uc.1 15 = 0 ∧ uc.1 16 = 0) := ⟨_, rfl, yf_I (yf_I (yf_I (yf_I (yf_I (yf_I (yf_I (yf_I (yf_I (yf_I (yf_I (yf_I yf_refl (by decide)) (by decide)) (by decide)) (by decide)) (by decide)) (by decide)) (by decide)) (by decide)) (by decide)) (by decide)) (by decide)) (by decide), rfl, rfl, rfl, rfl, rfl, rfl, rfl, rfl, rfl, rfl, rfl, rfl⟩
  have hF1 : hFr (xs_I (xs_I uc 28 0) 29 0) := by
    obtain ⟨⟨m, m1, m2, m3⟩, h43⟩ := hF
    refine ⟨⟨m, ?_, m2, fun hm => ?_⟩, fun i hi => ?_⟩
    · show uc.1 30 = nI m
      rw [fc.1 30 (by decide)]; exact m1
    · obtain ⟨q, q1, q2⟩ := m3 hm
      refine ⟨q, fun i hi => ?_, q2⟩
      show uc.2.2.1 44 i = nI (q i) ∧ _
      rw [fc.2.2.1 44 (by simp)]; exact q1 i hi
    · show uc.2.2.1 43 i = 0
      rw [fc.2.2.1 43 (by simp)]; exact h43 i hi
  obtain ⟨ud, d1, d2, d3, d4, d5⟩ := hl_heap (fu := fu) (by omega) hF1
  have hM1 : hMz ud := by
    obtain ⟨p, p1, p2, p3⟩ := hM
    refine ⟨p, ?_, p2, fun i h1 h2 => ?_⟩
    · rw [d2.1 33 (by decide)]
      show uc.1 33 = _
      rw [fc.1 33 (by decide)]; exact p1
    · rw [d2.2.2.1 46 (by decide)]
      show uc.2.2.1 46 i = 0
      rw [fc.2.2.1 46 (by simp)]; exact p3 i h1 h2
  obtain ⟨ue, e1, e2, e3, e4, e5⟩ := hl_mem hfu hM1
  have f1 : yf_fr [28, 29, 30, 32] [] [44] [] uc ud := yf_trans (yf_I (yf_I yf_refl (by decide)) (by decide)) (yf_mono d2 (by decide))
  have f2 : yf_fr [28, 29, 30, 32, 33, 34] [] [44, 46] [] uc ue := yf_trans (yf_mono f1 (by decide)) (yf_mono e2 (by decide))
  obtain ⟨z5, z6, z7, z8, z9, z10, z11, z12, z13, z14, z15, z16⟩ := hz
  refine ⟨uc, ue, hc, ?_, yf_trans (yf_mono fc (by decide)) (yf_mono f2 (by decide)), ⟨?_, ?_, ?_, ?_, ?_, ?_, ?_, ?_, ?_, ?_, ?_, ?_⟩, ⟨?_, ?_, ?_, e3, e4⟩, e5, ?_, ?_, fun i hi => ?_⟩
  · unfold fm_Machine_clear
    simp only [xs_let]
    rw [d1, ys_seq, e1, ys_seq]
  · rw [f2.1 5 (by decide)]; exact z5
  · rw [f2.1 6 (by decide)]; exact z6
  · rw [f2.1 7 (by decide)]; exact z7
  · rw [f2.1 8 (by decide)]; exact z8
  · rw [f2.1 9 (by decide)]; exact z9
  · rw [f2.1 10 (by decide)]; exact z10
  · rw [f2.1 11 (by decide)]; exact z11
  · rw [f2.1 12 (by decide)]; exact z12
  · rw [f2.1 13 (by decide)]; exact z13
  · rw [f2.1 14 (by decide)]; exact z14
  · rw [f2.1 15 (by decide)]; exact z15
  · rw [f2.1 16 (by decide)]; exact z16
  · rw [e2.1 28 (by decide), d2.1 28 (by decide)]; rfl
  · rw [e2.1 29 (by decide), d2.1 29 (by decide)]; rfl
  · rw [e2.1 32 (by decide)]; exact d3
  · rw [e2.1 30 (by decide)]; exact d4
  · obtain ⟨q, q1, q2⟩ := d5
    refine ⟨q, fun i hi => ?_, q2⟩
    rw [e2.2.2.1 44 (by decide)]; exact q1 i hi
  · rw [e2.2.2.1 43 (by decide), d2.2.2.1 43 (by decide)]
    exact hF1.2 i hi
/-- nothing read yet -/
theorem hl_D0 (h : u.1 5 = 0 ∧ u.1 6 = -1 ∧ u.1 7 = 0 ∧ u.1 8 = 0 ∧ u.1 9 = 0 ∧ u.1 10 = 0 ∧ u.1 11 = 0 ∧ u.1 12 = 0 ∧ u.1 13 = 0 ∧ u.1 14 = 0 ∧ u.1 15 = 0 ∧ u.1 16 = 0) (h17 : u.1 17 = 0) : yDall D B yS_0 u := by
  obtain ⟨z5, z6, z7, z8, z9, z10, z11, z12, z13, z14, z15, z16⟩ := h
  exact ⟨⟨[], rfl, z7, yi_nil⟩, ⟨[], rfl, z10, yi_nil⟩, ⟨[], rfl, z11, yi_nil⟩, ⟨[], rfl, z12, yi_nil⟩, ⟨[], rfl, z13, yi_nil⟩, ⟨[], rfl, z14, yi_nil⟩, ⟨none, rfl, z6⟩, ⟨[], rfl, z15, yi_nil⟩, ⟨[], rfl, z5, yi_nil⟩, ⟨[], rfl, z16, yi_nil⟩, ⟨0, 0, 0, z9, z8, h17, Nat.le_refl _, Nat.le_refl _, by decide⟩, fun _ => z8, fun t => absurd rfl t, fun t => absurd rfl t⟩
end
