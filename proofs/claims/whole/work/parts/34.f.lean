section
variable {α β γ δ σ τ : Type} {u v w u' v' : xk_St} {T : List (Nat × List Nat × List Nat)} {n fu k b s m : Nat} {X Y Z : List Nat} {H : rH}
theorem bo_01 {x : Int32} (h : x = 0 ∨ x = 1) : vp_nar .boolean x = x := by rcases h with rfl | rfl <;> decide
/-- values slide down, by the class -/
theorem hp_slide (hfu : m < fu) (h28 : u.1 28 = nI (s + m)) (hs : s + m ≤ 18000) (hb : b ≤ s) (hz : ∀ i, i < m → u.2.2.1 37 (s + i) = 0 ∨ u.2.2.1 37 (s + i) = 1) : ∃ u', fm_Values_slide__h61 fu (nI m) (nI b) u = some ((), u') ∧ yf_fr [28] [] [37] [10] u u' ∧ u'.1 28 = nI (b + m) ∧ (∀ i, i < m → u'.2.2.2 10 (b + i) = u.2.2.2 10 (s + i) ∧ u'.2.2.1 37 (b + i) = u.2.2.1 37 (s + i)) ∧ ∀ i, i < b → u'.2.2.2 10 i = u.2.2.2 10 i ∧ u'.2.2.1 37 i = u.2.2.1 37 i := by
  unfold fm_Values_slide__h61
  simp only [xs_let]
  rw [h28, nI_subb]
  by_cases zb : s = b
  · subst zb
    obtain ⟨f, rfl⟩ : ∃ f, fu = f + 1 := ⟨fu - 1, by omega⟩
    have e : jb_Values_slide__h61_10 (f + 1) (f + 1) (nI m) (nI s) (nI s) 0 u = jb_Values_slide__h61_40 (f + 1) (nI m) (nI s) u := by
      conv => lhs; unfold jb_Values_slide__h61_10
      simp only [xs_let]
      split
      · rfl
      · rw [if_pos trivial]
    rw [e]
    unfold jb_Values_slide__h61_40
    simp only [xs_let]
    rw [nI_add]
    exact ⟨_, rfl, yf_I yf_refl (by decide), rfl, fun i _ => ⟨rfl, rfl⟩, fun i _ => ⟨rfl, rfl⟩⟩
  · have loop : ∀ (d k n : Nat) (x : xk_St), k + d = m → d < n → yf_fr [] [] [37] [10] u x → (∀ i, i < k → x.2.2.2 10 (b + i) = u.2.2.2 10 (s + i) ∧ x.2.2.1 37 (b + i) = u.2.2.1 37 (s + i)) → (∀ i, i < b ∨ b + k ≤ i → x.2.2.2 10 i = u.2.2.2 10 i ∧ x.2.2.1 37 i = u.2.2.1 37 i) → ∃ u', jb_Values_slide__h61_10 fu n (nI m) (nI b) (nI s) (nI k) x = some ((), u') ∧ yf_fr [28] [] [37] [10] u u' ∧ u'.1 28 = nI (b + m) ∧ (∀ i, i < m → u'.2.2.2 10 (b + i) = u.2.2.2 10 (s + i) ∧ u'.2.2.1 37 (b + i) = u.2.2.1 37 (s + i)) ∧ ∀ i, i < b → u'.2.2.2 10 i = u.2.2.2 10 i ∧ u'.2.2.1 37 i = u.2.2.1 37 i := by
      intro d
      induction d with
      | zero =>
        intro k n x hk hn hf h1 h2
        obtain ⟨n, rfl⟩ : ∃ m, n = m + 1 := ⟨n - 1, by omega⟩
        obtain rfl : k = m := by omega
        unfold jb_Values_slide__h61_10 jb_Values_slide__h61_40
        simp only [xs_let]
        rw [if_pos (Int32.le_refl _), nI_add]
        exact ⟨_, rfl, yf_I (yf_mono hf (by decide)) (by decide), rfl, h1, fun i hi => h2 i (Or.inl hi)⟩
      | succ d ih =>
        intro k n x hk hn hf h1 h2
        obtain ⟨n, rfl⟩ : ∃ m, n = m + 1 := ⟨n - 1, by omega⟩
        unfold jb_Values_slide__h61_10
        simp only [xs_let]
        rw [if_neg (nI_ge (by omega) (by omega)), if_neg (fun y => zb ((nI_eq (by omega) (by omega)).mp y)), nI_add, nI_add]
        unfold fm_Values_copy__h61_61
        simp only [xs_let]
        have c1 : x.2.2.1 37 (s + k) = u.2.2.1 37 (s + k) := (h2 (s + k) (by omega)).2
        have c2 : x.2.2.2 10 (s + k) = u.2.2.2 10 (s + k) := (h2 (s + k) (by omega)).1
        have c3 : (xs_B x 10 (b + k) (u.2.2.2 10 (s + k))).2.2.1 37 (s + k) = u.2.2.1 37 (s + k) := c1
        rw [ix18 (by omega), ix18 (by omega), ix18 (by omega), ix18 (by omega), nI_clamp (by omega), nI_clamp (by omega), c2, c3, bo_01 (hz k (by omega)), ys_seq, nI_1]
        refine ih (k + 1) n _ (by omega) (by omega) (yf_A (yf_B hf (by decide)) (by decide)) (fun i hi => ?_) fun i hi => ?_
        · show vp_updL (x.2.2.2 10) (b + k) (u.2.2.2 10 (s + k)) (b + i) = _ ∧ upd (x.2.2.1 37) (b + k) (u.2.2.1 37 (s + k)) (b + i) = _
          by_cases zi : i = k
          · subst zi; rw [yb_t, ya_t]; exact ⟨rfl, rfl⟩
          · rw [yb_j (by omega), ya_j (by omega)]
            exact h1 i (by omega)
        · show vp_updL (x.2.2.2 10) (b + k) (u.2.2.2 10 (s + k)) i = _ ∧ upd (x.2.2.1 37) (b + k) (u.2.2.1 37 (s + k)) i = _
          rw [yb_j (by omega), ya_j (by omega)]
          exact h2 i (by omega)
    exact loop m 0 fu u (by omega) hfu yf_refl (fun i hi => by omega) fun i _ => ⟨rfl, rfl⟩
/-- values come down, by the reference -/
theorem mp_come (hfu : m < fu) (h26 : v.1 26 = nI (s + m)) (hs : s + m ≤ 18000) (hb : b ≤ s) (hz : ∀ i, i < m → v.2.2.1 29 (s + i) = 0 ∨ v.2.2.1 29 (s + i) = 1) : ∃ v', fm_Model_comeDown fu (nI m) (nI b) v = some ((), v') ∧ yf_fr [26] [] [29] [3] v v' ∧ v'.1 26 = nI (b + m) ∧ (∀ i, i < m → v'.2.2.2 3 (b + i) = v.2.2.2 3 (s + i) ∧ v'.2.2.1 29 (b + i) = v.2.2.1 29 (s + i)) ∧ ∀ i, i < b → v'.2.2.2 3 i = v.2.2.2 3 i ∧ v'.2.2.1 29 i = v.2.2.1 29 i := by
  unfold fm_Model_comeDown
  simp only [xs_let]
  rw [h26, nI_subb]
  have loop : ∀ (d k n : Nat) (x : xk_St), k + d = m → d < n → yf_fr [] [] [29] [3] v x → (∀ i, i < k → x.2.2.2 3 (b + i) = v.2.2.2 3 (s + i) ∧ x.2.2.1 29 (b + i) = v.2.2.1 29 (s + i)) → (∀ i, i < b ∨ b + k ≤ i → x.2.2.2 3 i = v.2.2.2 3 i ∧ x.2.2.1 29 i = v.2.2.1 29 i) → ∃ v', jb_Model_comeDown_10 fu n (nI m) (nI b) (nI s) (nI k) x = some ((), v') ∧ yf_fr [26] [] [29] [3] v v' ∧ v'.1 26 = nI (b + m) ∧ (∀ i, i < m → v'.2.2.2 3 (b + i) = v.2.2.2 3 (s + i) ∧ v'.2.2.1 29 (b + i) = v.2.2.1 29 (s + i)) ∧ ∀ i, i < b → v'.2.2.2 3 i = v.2.2.2 3 i ∧ v'.2.2.1 29 i = v.2.2.1 29 i := by
    intro d
    induction d with
    | zero =>
      intro k n x hk hn hf h1 h2
      obtain ⟨n, rfl⟩ : ∃ m, n = m + 1 := ⟨n - 1, by omega⟩
      obtain rfl : k = m := by omega
      unfold jb_Model_comeDown_10
      simp only [xs_let]
      rw [if_pos (Int32.le_refl _), nI_add]
      exact ⟨_, rfl, yf_I (yf_mono hf (by decide)) (by decide), rfl, h1, fun i hi => h2 i (Or.inl hi)⟩
    | succ d ih =>
      intro k n x hk hn hf h1 h2
      obtain ⟨n, rfl⟩ : ∃ m, n = m + 1 := ⟨n - 1, by omega⟩
      unfold jb_Model_comeDown_10
      simp only [xs_let]
      have c1 : x.2.2.1 29 (s + k) = v.2.2.1 29 (s + k) := (h2 (s + k) (by omega)).2
      have c2 : x.2.2.2 3 (s + k) = v.2.2.2 3 (s + k) := (h2 (s + k) (by omega)).1
      have c3 : (xs_B x 3 (b + k) (v.2.2.2 3 (s + k))).2.2.1 29 (s + k) = v.2.2.1 29 (s + k) := c1
      rw [if_neg (nI_ge (by omega) (by omega)), nI_add, nI_add, ix19 (by omega), ix19 (by omega), ix19 (by omega), ix19 (by omega), nI_clamp (by omega), nI_clamp (by omega), c2, c3, bo_01 (hz k (by omega)), nI_1]
      refine ih (k + 1) n _ (by omega) (by omega) (yf_A (yf_B hf (by decide)) (by decide)) (fun i hi => ?_) fun i hi => ?_
      · show vp_updL (x.2.2.2 3) (b + k) (v.2.2.2 3 (s + k)) (b + i) = _ ∧ upd (x.2.2.1 29) (b + k) (v.2.2.1 29 (s + k)) (b + i) = _
        by_cases zi : i = k
        · subst zi; rw [yb_t, ya_t]; exact ⟨rfl, rfl⟩
        · rw [yb_j (by omega), ya_j (by omega)]
          exact h1 i (by omega)
      · show vp_updL (x.2.2.2 3) (b + k) (v.2.2.2 3 (s + k)) i = _ ∧ upd (x.2.2.1 29) (b + k) (v.2.2.1 29 (s + k)) i = _
        rw [yb_j (by omega), ya_j (by omega)]
        exact h2 i (by omega)
  exact loop m 0 fu v (by omega) hfu yf_refl (fun i hi => by omega) fun i _ => ⟨rfl, rfl⟩
/-- both -/
theorem RS_slide (hfu : 18000 < fu) (h : RS T H (X ++ (Y ++ Z)) u v) : ∃ u' v', fm_Values_slide__h61 fu (nI Z.length) (nI X.length) u = some ((), u') ∧ fm_Model_comeDown fu (nI Z.length) (nI X.length) v = some ((), v') ∧ yf_fr [28] [] [37] [10] u u' ∧ yf_fr [26] [] [29] [3] v v' ∧ RS T H (X ++ Z) u' v' := by
  obtain ⟨h1, h2, h3, h4⟩ := h
  have hlen : (X ++ (Y ++ Z)).length = (X.length + Y.length) + Z.length := by simp only [List.length_append]; omega
  have hget : ∀ (i : Nat) c, Z[i]? = some c → (X ++ (Y ++ Z))[X.length + Y.length + i]? = some c := fun i c hc => by
    rw [List.getElem?_append_right (by omega), List.getElem?_append_right (by omega), ← hc]
    congr 1; omega
  rw [hlen] at h1 h2 h3
  have hzu : ∀ i, i < Z.length → u.2.2.1 37 (X.length + Y.length + i) = 0 ∨ u.2.2.1 37 (X.length + Y.length + i) = 1 := fun i hi => by
    obtain ⟨c, hc⟩ := yl_get (l := Z) hi
    exact rv_f (h4 _ c (hget i c hc)).1
  have hzv : ∀ i, i < Z.length → v.2.2.1 29 (X.length + Y.length + i) = 0 ∨ v.2.2.1 29 (X.length + Y.length + i) = 1 := fun i hi => by
    obtain ⟨c, hc⟩ := yl_get (l := Z) hi
    rw [(h4 _ c (hget i c hc)).2]
    by_cases z : 16 ≤ c
    · rw [if_pos z]; exact Or.inr rfl
    · rw [if_neg z]; exact Or.inl rfl
  obtain ⟨u', a1, a2, a3, a4, a5⟩ := hp_slide (fu := fu) (m := Z.length) (b := X.length) (by omega) h1 h3 (by omega) hzu
  obtain ⟨v', b1, b2, b3, b4, b5⟩ := mp_come (fu := fu) (m := Z.length) (b := X.length) (by omega) h2 h3 (by omega) hzv
  have hl2 : (X ++ Z).length = X.length + Z.length := List.length_append
  refine ⟨u', v', a1, b1, a2, b2, by rw [hl2]; exact a3, by rw [hl2]; exact b3, by omega, fun i c hc => ?_⟩
  have hi := yl_lt hc
  by_cases z : i < X.length
  · rw [List.getElem?_append_left z] at hc
    rw [(a5 i z).1, (a5 i z).2, (b5 i z).1, (b5 i z).2]
    exact h4 i c (by rw [List.getElem?_append_left z]; exact hc)
  · rw [List.getElem?_append_right (by omega)] at hc
    obtain ⟨e, he⟩ : ∃ e, i = X.length + e := ⟨i - X.length, by omega⟩
    subst he
    rw [show X.length + e - X.length = e by omega] at hc
    rw [(a4 e (by omega)).1, (a4 e (by omega)).2, (b4 e (by omega)).1, (b4 e (by omega)).2]
    exact h4 _ c (hget e c hc)
end
