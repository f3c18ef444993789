section
variable {α β γ δ : Type} {B : Nat → Int32} {u v w : xk_St} {L lim p q fu D len : Nat} {e : Int32} {T : List (Nat × List Nat × List Nat)} {g : Nat → Nat}
theorem yTh_fr {I J A C : List Nat} (h : yTh T v) (hf : yf_fr I J A C v w) (hd : (yf_no [7] I && yf_no [2, 3, 4, 6] A) = true) : yTh T w := by
  have hd := Bool.and_eq_true_iff.mp hd
  refine ⟨(hf.1 7 (yf_nok hd.1 (by simp))).trans h.1, h.2.1, fun k c hc => ?_⟩
  obtain ⟨⟨a, b, c, d, e⟩, g⟩ := h.2.2 k c hc
  rw [← hf.2.2.1 2 (yf_nok hd.2 (by simp))] at a
  rw [← hf.2.2.1 3 (yf_nok hd.2 (by simp))] at b
  rw [← hf.2.2.1 4 (yf_nok hd.2 (by simp))] at c
  rw [← hf.2.2.1 6 (yf_nok hd.2 (by simp))] at d e
  exact ⟨⟨a, b, c, d, e⟩, g⟩
theorem yV_ah (hT : yTh T u) (hV : yV1 T) (k : Nat) : yk_ah T k := yk_ah_of (fun z hz => (hT.2.2 k z hz).2) (hV.2 k)
/-- the first of the types that are the same as type k is looked for -/
theorem hh_g19 {k : Nat} {k2 : Int32 → xk_St → Option (Unit × xk_St)} (hfu : 100 ≤ fu) (hT : yTh T u) (hV : yV1 T) (hk : k < T.length) (hL : ∀ i, i < k → u.2.2.1 5 i = nI (yl_f T i)) (hLk : u.2.2.1 5 k = nI k) :
    ∀ (d j n : Nat), j + d = k → d < n → (∀ i, i < j → ¬ yk_key T (yl_f T) i = yk_key T (yl_f T) k) → ∃ v, jb_Types_group_19 fu k2 n (nI k) (nI j) u = k2 (nI (k + 1)) v ∧ yf_fr [] [] [5] [] u v ∧ (∀ i, i < k → v.2.2.1 5 i = nI (yl_f T i)) ∧ v.2.2.1 5 k = nI (yl_f T k) := by
  have h64 := hT.2.1
  have hah : ∀ j, yk_ah T j := yV_ah hT hV
  obtain ⟨f1, f2, f3⟩ := yl_fP (k := k) (fun j _ => hah j)
  obtain ⟨c, hc⟩ := yl_get (l := T) hk
  intro d
  induction d with
  | zero =>
    intro j n h1 h2 hno
    obtain ⟨n, rfl⟩ : ∃ m, n = m + 1 := ⟨n - 1, by omega⟩
    obtain rfl : j = k := by omega
    unfold jb_Types_group_19 jb_Types_group_59
    simp only [xs_let]
    rw [if_pos (Int32.le_refl _), nI_1]
    refine ⟨u, rfl, yf_refl, hL, ?_⟩
    rw [hLk]
    have : yl_f T j = j := by
      by_cases z : yl_f T j < j
      · exact absurd f2 (hno _ z)
      · omega
    rw [this]
  | succ d ih =>
    intro j n h1 h2 hno
    obtain ⟨n, rfl⟩ : ∃ m, n = m + 1 := ⟨n - 1, by omega⟩
    obtain ⟨dd, hd⟩ := yl_get (l := T) (k := j) (by omega)
    have hg : ∀ i, yl_f T i ≤ i := fun i => (yl_fP (k := i) (fun j _ => hah j)).1
    obtain ⟨a1, a2⟩ := hh_alike (u := u) (fu := fu) hfu hT hV hc hd hL (fun i hi => hL i (by omega)) hg
    have hj64 : j ≤ 64 := by omega
    have hk64 : k ≤ 64 := by omega
    unfold jb_Types_group_19 jb_Types_group_53 jb_Types_group_59
    simp only [xs_let]
    rw [if_neg (nI_ge (by omega) (by omega)), hh_ix hj64, nI_clamp (by omega), hL j (by omega), nI_1]
    have ej : nI (yl_f T j) = nI j ↔ yl_f T j = j := nI_eq (by have := hg j; omega) (by omega)
    by_cases he : yk_key T (yl_f T) j = yk_key T (yl_f T) k
    · have hff : yl_f T j = j := yl_ff (k := k) (fun i _ => hah i) (by omega) he hno
      have hfk : yl_f T k = j := by
        have h3 := f3
        by_cases z : yl_f T k < j
        · exact absurd f2 (hno _ z)
        · by_cases z2 : j < yl_f T k
          · exact absurd he (f3 j z2)
          · omega
      rw [if_pos (ej.mpr hff), a1 he.symm, ys_seq, if_neg (show ¬ (1 : Int32) = 0 by decide), hh_ix hk64, nI_clamp (by omega), nI_1]
      refine ⟨_, rfl, yf_A yf_refl (by decide), fun i hi => ?_, ?_⟩
      · show upd (u.2.2.1 5) k (nI j) i = _
        rw [ya_j (by omega)]; exact hL i hi
      · show upd (u.2.2.1 5) k (nI j) k = _
        rw [ya_t, hfk]
    · have hno' : ∀ i, i < j + 1 → ¬ yk_key T (yl_f T) i = yk_key T (yl_f T) k := fun i hi => by
        by_cases z : i = j
        · rw [z]; exact he
        · exact hno i (by omega)
      obtain ⟨v, e1, e2⟩ := ih (j + 1) n (by omega) (by omega) hno'
      refine ⟨v, ?_, e2⟩
      by_cases hff : yl_f T j = j
      · rw [if_pos (ej.mpr hff), a2 (fun z => he z.symm), ys_seq, if_pos rfl]
        exact e1
      · rw [if_neg (fun z => hff (ej.mp z))]
        exact e1
theorem hh_group (hfu : 100 ≤ fu) (hT : yTh T u) (hV : yV1 T) : ∃ v, fm_Types_group fu u = some ((), v) ∧ yf_fr [] [] [5] [] u v ∧ ∀ k, k < T.length → v.2.2.1 5 k = nI (yl_f T k) := by
  have h64 := hT.2.1
  have hl : ∀ (d k n : Nat) (w : xk_St), k + d = T.length → d < n → yf_fr [] [] [5] [] u w → (∀ i, i < k → w.2.2.1 5 i = nI (yl_f T i)) → ∃ v, jb_Types_group_2 fu n (nI k) w = some ((), v) ∧ yf_fr [] [] [5] [] u v ∧ ∀ i, i < T.length → v.2.2.1 5 i = nI (yl_f T i) := by
    intro d
    induction d with
    | zero =>
      intro k n w h1 h2 hf hL
      obtain ⟨n, rfl⟩ : ∃ m, n = m + 1 := ⟨n - 1, by omega⟩
      unfold jb_Types_group_2
      simp only [xs_let]
      rw [hf.1 7 (by decide), hT.1, if_pos (by rw [show k = T.length by omega]; exact Int32.le_refl _)]
      exact ⟨w, rfl, hf, fun i hi => hL i (by omega)⟩
    | succ d ih =>
      intro k n w h1 h2 hf hL
      obtain ⟨n, rfl⟩ : ∃ m, n = m + 1 := ⟨n - 1, by omega⟩
      have hk64 : k ≤ 64 := by omega
      unfold jb_Types_group_2
      simp only [xs_let]
      rw [hf.1 7 (by decide), hT.1, if_neg (nI_ge (by omega) (by omega)), hh_ix hk64, nI_clamp (by omega)]
      have hf2 : yf_fr [] [] [5] [] u (xs_A w 5 k (nI k)) := yf_A hf (by decide)
      obtain ⟨v, e1, e2, e3, e4⟩ := hh_g19 (fu := fu) (u := xs_A w 5 k (nI k)) (k := k) (k2 := jb_Types_group_2 fu n) hfu (yTh_fr hT hf2 (by decide)) hV (by omega) (fun i hi => by
        show upd (w.2.2.1 5) k (nI k) i = _
        rw [ya_j (by omega)]; exact hL i hi) (by
        show upd (w.2.2.1 5) k (nI k) k = _
        exact ya_t) k 0 fu (by omega) (by omega) (fun i hi => by omega)
      have e1' : jb_Types_group_19 fu (jb_Types_group_2 fu n) fu (nI k) 0 (xs_A w 5 k (nI k)) = _ := e1
      rw [e1']
      refine ih (k + 1) n v (by omega) (by omega) (yf_trans hf2 e2) (fun i hi => ?_)
      by_cases z : i = k
      · rw [z]; exact e4
      · exact e3 i (by omega)
  exact hl T.length 0 fu u (by omega) (by omega) yf_refl (fun i hi => by omega)
/-- the class's check of the types -/
theorem hh_checkTypes (hfu : 100 ≤ fu) (hT : yTh T u) : (yV1 T → ∃ v, fm_Checker_checkTypes fu u = some (.inl (), v) ∧ yf_fr [] [] [5] [] u v ∧ ∀ k, k < T.length → v.2.2.1 5 k = nI (yl_f T k)) ∧ (¬ yV1 T → fm_Checker_checkTypes fu u = some (.inr 0, u)) := by
  obtain ⟨h1, h2⟩ := hh_ct hfu hT
  refine ⟨fun hV => ?_, h2⟩
  obtain ⟨v, e1, e2, e3⟩ := hh_group hfu hT hV
  refine ⟨v, ?_, e2, e3⟩
  rw [h1 hV, e1, ys_seq]
end
