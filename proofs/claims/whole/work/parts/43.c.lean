section
variable {α β γ δ σ τ : Type} {B : Nat → Int32} {u v w u' v' u0 v0 u1 v1 uh um uc um1 : xk_St} {T : List (Nat × List Nat × List Nat)} {F : List Nat} {G : List (Nat × Nat × Nat × Int64)} {n fu p q k j d b g m i t sz ix tc mc D len : Nat} {H H' : rH} {z h : Nat → Nat} {l10 : List sBo}
/-- all bodies by the class, and what a failing check leaves alone -/
theorem hc_allF (hfu : 20000 ≤ fu) (he : yCe T u) (hEn : sEn T F tc mc G u) (hw : sWh h u) (hl : l10.length = F.length) (hR : ∀ (k : Nat) a, l10[k]? = some a → sRd D B u k (z k) a) (hz : ∀ i j, i < j → j < l10.length → z i < z j) : ∀ (m k n : Nat) (v : xk_St), k + m = l10.length → m < n → yf_fr [19, 20, 21, 22] [] [8, 9, 10, 11, 14, 33, 34, 35, 36] [2] u v → sIv T F tc mc G z h l10 u k v →
    ((∀ (j : Nat) a, k ≤ j → l10[j]? = some a → yv_bd T F tc mc G z j a) ∧ ∃ w n', jb_House_load_70 fu n (nI k) v = jb_House_load_70 fu (n' + 1) (nI l10.length) w ∧ sIv T F tc mc G z h l10 u l10.length w ∧ yf_fr [19, 20, 21, 22] [] [8, 9, 10, 11, 14, 33, 34, 35, 36] [2] u w) ∨ ((¬ ∀ (j : Nat) a, k ≤ j → l10[j]? = some a → yv_bd T F tc mc G z j a) ∧ ∃ w, jb_House_load_70 fu n (nI k) v = some (-2, w) ∧ yf_fr [19, 20, 21, 22] [] [8, 9, 10, 11, 14, 33, 34, 35, 36] [2] u w) := by
  intro m
  induction m with
  | zero =>
    intro k n v hk hn hf hv
    obtain ⟨n, rfl⟩ : ∃ m, n = m + 1 := ⟨n - 1, by omega⟩
    obtain rfl : k = l10.length := by omega
    exact Or.inl ⟨fun j a hj ha => by have := yl_lt ha; omega, v, n, rfl, hv, hf⟩
  | succ m ih =>
    intro k n v hk hn hf hv
    obtain ⟨n, rfl⟩ : ∃ m, n = m + 1 := ⟨n - 1, by omega⟩
    obtain ⟨a, ha⟩ := yl_get (l := l10) (k := k) (by omega)
    have hF64 := hEn.2.1
    have v10 : v.1 10 = nI F.length := (hv.1.1 10 (by decide)).trans hEn.1
    have hstep : jb_House_load_70 fu (n + 1) (nI k) v = xs_cat (fm_Checker_checkBody fu (nI k) v) (fun k24 u25 => if k24 = 0 then (some ((-2 : Int32), u25)) else none) fun _ u23 => jb_House_load_70 fu n (nI (k + 1)) u23 := by
      conv => lhs; unfold jb_House_load_70
      simp only [xs_let]
      rw [v10, if_neg (nI_ge (by omega) (by omega))]
      simp only [nI_1]
    rw [hstep]
    rcases hc_next (fu := fu) hfu he hEn hw hl hR hz ha hv with ⟨b1, w, b2, b3⟩ | ⟨b1, w, b2⟩
    · have hfw := yf_trans hf (yf_fm_Checker_checkBody _ _ b2)
      rw [b2, ys_catl]
      rcases ih (k + 1) n w (by omega) (by omega) hfw b3 with ⟨c1, c2⟩ | ⟨c1, c2⟩
      · refine Or.inl ⟨fun j b hj hb => ?_, c2⟩
        by_cases zj : j = k
        · subst zj; rw [ha] at hb; cases hb; exact b1
        · exact c1 j b (by omega) hb
      · exact Or.inr ⟨fun y => c1 fun j b hj hb => y j b (by omega) hb, c2⟩
    · have hfw := yf_trans hf (yf_fm_Checker_checkBody _ _ b2)
      rw [b2, ys_catr, if_pos rfl]
      exact Or.inr ⟨fun y => b1 (y k a (Nat.le_refl _) ha), w, rfl, hfw⟩
/-- a rest again -/
theorem rB_ld {uh' um' : xk_St} (hr : rB uh um) (a1 : uh'.2.2.1 0 = uh.2.2.1 0) (a2 : um'.2.2.1 0 = um.2.2.1 0) (a3 : uh'.2.2.1 1 = ldB uh n) (a4 : um'.2.2.1 1 = ldB uh n) (a5 : uh'.1 0 = 0) (a6 : um'.1 1 = 0) (a7 : uh'.1 1 = uh.1 1) (a8 : um'.1 2 = um.1 2) (a9 : uh'.2.2.2 0 = uh.2.2.2 0) (a10 : um'.2.2.2 0 = um.2.2.2 0) (a11 : uh'.1 2 = 0) (a12 : um'.1 31 = 0) (a13 : uh'.1 3 = um'.1 30) (a14 : uh'.1 28 = 0) (a15 : um'.1 26 = 0) (a16 : hFr uh') (a17 : hMz uh') : rB uh' um' := by
  obtain ⟨⟨b1, b2, b3, b4⟩, -, ⟨g, g1, g2, g3, g4⟩, -⟩ := id hr
  refine ⟨⟨by rw [a1, a2]; exact b1, by rw [a3, a4], fun i => by rw [a1]; exact b3 i, fun i => by rw [a3]; exact ldB_8 hr i⟩, ⟨0, by decide, a5, a6⟩, ⟨g, g1, by rw [a7]; exact g2, by rw [a8]; exact g3, fun i hi => by rw [a9, a10]; exact g4 i hi⟩, ⟨0, by decide, a11, a12, fun i hi => by omega⟩, a13, a14, a15, a16, a17⟩
theorem hFr_fr {I J A C : List Nat} (h : hFr u) (hf : yf_fr I J A C u u') (hd : (yf_no [30] I && yf_no [43, 44] A) = true) : hFr u' := by
  have hd := Bool.and_eq_true_iff.mp hd
  unfold hFr
  rw [hf.1 30 (yf_nok hd.1 (by simp)), hf.2.2.1 43 (yf_nok hd.2 (by simp)), hf.2.2.1 44 (yf_nok hd.2 (by simp))]
  exact h
theorem hMz_fr {I J A C : List Nat} (h : hMz u) (hf : yf_fr I J A C u u') (hd : (yf_no [33] I && yf_no [46] A) = true) : hMz u' := by
  have hd := Bool.and_eq_true_iff.mp hd
  unfold hMz
  rw [hf.1 33 (yf_nok hd.1 (by simp)), hf.2.2.1 46 (yf_nok hd.2 (by simp))]
  exact h
/-- the class cleared: its heap and its memory are ready -/
theorem ld_hF (c7 : uc.1 30 = nI 2000) (c8 : ∃ q : Nat → Nat, (∀ i, i < 2000 → uc.2.2.1 44 i = nI (q i) ∧ 0 < q i ∧ q i ≤ 2000) ∧ ∀ i j, i < 2000 → j < 2000 → q i = q j → i = j) (c9 : ∀ i, i < 2001 → uc.2.2.1 43 i = 0) : hFr uc := ⟨⟨2000, c7, Nat.le_refl _, fun _ => c8⟩, c9⟩
theorem ld_hM (c5 : uc.1 33 = 0) (c6 : ∀ i, i < 65536 → uc.2.2.1 46 i = 0) : hMz uc := ⟨0, c5, by decide, fun i _ h => c6 i h⟩
/-- a load that fails: what is left -/
theorem ld_fail {uh' um' : xk_St} (hr : rB uh um) (hc : yf_fr [0, 2, 3, 4, 5, 6, 7, 8, 9, 10, 11, 12, 13, 14, 15, 16, 28, 29, 30, 32, 33, 34] [] [44, 46] [] uh uc) (c0 : uc.1 0 = 0 ∧ uc.1 2 = 0 ∧ uc.1 3 = 0 ∧ uc.1 4 = 0) (c28 : uc.1 28 = 0) (hF : hFr uc) (hM : hMz uc) (hu : yf_fr [5, 6, 7, 8, 9, 10, 11, 12, 13, 14, 15, 16, 17, 18, 19, 20, 21, 22] [] [2, 3, 4, 5, 6, 7, 8, 9, 10, 11, 12, 13, 14, 16, 17, 19, 20, 21, 22, 23, 24, 25, 26, 28, 29, 31, 32, 33, 34, 35, 36] [2, 6, 7, 8, 9] (xs_I (xs_I (xs_AA uc 1 (ldB uh n)) 17 0) 18 (nI n)) uh') (hm : yf_fr [0, 3] [] [1] [] um um1) (hm1 : um1.2.2.1 1 = ldB uh n) (hv : yf_fr [4, 5, 6, 7, 8, 9, 10, 11, 12, 13, 14, 15, 16, 17, 18, 19, 20, 21, 22, 23, 24] [0, 1] [2, 3, 4, 5, 6, 7, 8, 9, 10, 11, 12, 13, 14, 15, 16, 17, 18, 19, 20, 21, 22, 23, 24, 25, 26] [1, 2] (xs_I (xs_I (xs_I (xs_I um1 1 0) 25 0) 31 0) 30 0) um') : rB uh' um' ∧ uh'.1 4 = 0 ∧ um'.1 25 = 0 := by
  have hrr := hr
  obtain ⟨-, -, -, -, -, -, b26, -, -⟩ := hrr
  have hfc : yf_fr [17, 18] [] [1] [] uc (xs_I (xs_I (xs_AA uc 1 (ldB uh n)) 17 0) 18 (nI n)) := yf_I (yf_I (yf_AA yf_refl (by decide)) (by decide)) (by decide)
  refine ⟨rB_ld (n := n) hr ?_ ?_ ?_ ?_ ?_ ?_ ?_ ?_ ?_ ?_ ?_ ?_ ?_ ?_ ?_ (hFr_fr (hFr_fr hF hfc (by decide)) hu (by decide)) (hMz_fr (hMz_fr hM hfc (by decide)) hu (by decide)), ?_, ?_⟩
  · rw [hu.2.2.1 0 (by decide)]; exact hc.2.2.1 0 (by decide)
  · rw [hv.2.2.1 0 (by decide)]; exact hm.2.2.1 0 (by decide)
  · rw [hu.2.2.1 1 (by decide)]; rfl
  · rw [hv.2.2.1 1 (by decide)]; exact hm1
  · rw [hu.1 0 (by decide)]; exact c0.1
  · rw [hv.1 1 (by decide)]; rfl
  · rw [hu.1 1 (by decide)]; exact hc.1 1 (by decide)
  · rw [hv.1 2 (by decide)]; exact hm.1 2 (by decide)
  · rw [hu.2.2.2 0 (by decide)]; exact hc.2.2.2 0 (by simp)
  · rw [hv.2.2.2 0 (by decide)]; exact hm.2.2.2 0 (by simp)
  · rw [hu.1 2 (by decide)]; exact c0.2.1
  · rw [hv.1 31 (by decide)]; rfl
  · rw [hu.1 3 (by decide), hv.1 30 (by decide)]; exact c0.2.2.1
  · rw [hu.1 28 (by decide)]; exact c28
  · rw [hv.1 26 (by decide)]
    show um1.1 26 = 0
    rw [hm.1 26 (by decide)]; exact b26
  · rw [hu.1 4 (by decide)]; exact c0.2.2.2
  · rw [hv.1 25 (by decide)]; rfl
end
