section
variable {α β γ δ σ τ : Type} {u v w u' v' u0 v0 u1 v1 : xk_St} {T : List (Nat × List Nat × List Nat)} {F : List Nat} {G : List (Nat × Nat × Nat × Int64)} {n fu p q k j d b g m i t : Nat} {H H' : rH} {c : Nat} {e : Nat × Nat × Nat × Nat} {ms pl : List Nat} {W : List Nat}
/-- what stays of the first t objects -/
def hK (ms : List Nat) (H : rH) : Nat → rH
  | 0 => []
  | t + 1 => hK ms H t ++ (if t ∈ ms then (H[t]?).toList else [])
theorem hK_s (he : H[t]? = some e) (hm : t ∈ ms) : hK ms H (t + 1) = hK ms H t ++ [e] := by
  show hK ms H t ++ (if t ∈ ms then (H[t]?).toList else []) = _
  rw [if_pos hm, he]; rfl
theorem hK_n (hm : t ∉ ms) : hK ms H (t + 1) = hK ms H t := by
  show hK ms H t ++ (if t ∈ ms then (H[t]?).toList else []) = _
  rw [if_neg hm, List.append_nil]
theorem hK_mem : ∀ {t j : Nat} {e : Nat × Nat × Nat × Nat}, (hK ms H t)[j]? = some e → ∃ k, k < t ∧ k ∈ ms ∧ H[k]? = some e := by
  intro t
  induction t with
  | zero => intro j e h; cases h
  | succ t ih =>
    intro j e h
    by_cases hm : t ∈ ms
    · cases he : H[t]? with
      | none =>
        have : hK ms H (t + 1) = hK ms H t := by
          show hK ms H t ++ (if t ∈ ms then (H[t]?).toList else []) = _
          rw [if_pos hm, he]; exact List.append_nil _
        rw [this] at h
        obtain ⟨k, a, b, c⟩ := ih h
        exact ⟨k, by omega, b, c⟩
      | some e' =>
        rw [hK_s he hm] at h
        by_cases q : j < (hK ms H t).length
        · rw [List.getElem?_append_left q] at h
          obtain ⟨k, a, b, c⟩ := ih h
          exact ⟨k, by omega, b, c⟩
        · have := yl_lt h
          rw [List.length_append, List.length_singleton] at this
          rw [List.getElem?_append_right (by omega), show j - (hK ms H t).length = 0 by omega] at h
          cases h
          exact ⟨t, by omega, hm, he⟩
    · rw [hK_n hm] at h
      obtain ⟨k, a, b, c⟩ := ih h
      exact ⟨k, by omega, b, c⟩
theorem hK_in : ∀ {t : Nat}, k < t → k ∈ ms → H[k]? = some e → ∃ j : Nat, (hK ms H t)[j]? = some e := by
  intro t
  induction t with
  | zero => intro h; omega
  | succ t ih =>
    intro hk hm he
    by_cases q : k = t
    · subst q
      refine ⟨(hK ms H k).length, ?_⟩
      rw [hK_s he hm, List.getElem?_append_right (Nat.le_refl _), Nat.sub_self]; rfl
    · obtain ⟨j, hj⟩ := ih (by omega) hm he
      refine ⟨j, ?_⟩
      show (hK ms H t ++ _)[j]? = some e
      rw [List.getElem?_append_left (yl_lt hj)]; exact hj
theorem hK_le : ∀ {t : Nat}, t ≤ H.length → hS (hK ms H t) ≤ hS (H.take t) ∧ (hK ms H t).length ≤ t := by
  intro t
  induction t with
  | zero => intro _; exact ⟨Nat.le_refl _, Nat.le_refl _⟩
  | succ t ih =>
    intro ht
    obtain ⟨i1, i2⟩ := ih (by omega)
    obtain ⟨e, he⟩ : ∃ e, H[t]? = some e := ⟨_, List.getElem?_eq_getElem (by omega)⟩
    have hs := hS_at he
    by_cases hm : t ∈ ms
    · rw [hK_s he hm, hS_app, List.length_append, List.length_singleton]
      have : hS [e] = 1 + e.2.2.2 + 0 := rfl
      omega
    · rw [hK_n hm]; omega
theorem bo_fit {x : Int32} (h : x = 0 ∨ x = 1) : fits .boolean (.int x) = true := by rcases h with rfl | rfl <;> decide
/-- the class while it moves its objects together -/
def CIh (T : List (Nat × List Nat × List Nat)) (H : rH) (ms : List Nat) (t : Nat) (u1 u : xk_St) : Prop := yf_fr [30] [] [39, 42, 43, 44] [12] u1 u ∧ (∀ (j : Nat) e, (hK ms H t)[j]? = some e → u.2.2.1 42 e.1 = nI (hS ((hK ms H t).take j)) ∧ ∃ k : Nat, H[k]? = some e ∧ ∀ i, i ≤ e.2.2.2 → u.2.2.2 12 (hS ((hK ms H t).take j) + i) = u1.2.2.2 12 (hS (H.take k) + i) ∧ u.2.2.1 39 (hS ((hK ms H t).take j) + i) = u1.2.2.1 39 (hS (H.take k) + i)) ∧ (∀ c, hS (H.take t) ≤ c → u.2.2.2 12 c = u1.2.2.2 12 c ∧ u.2.2.1 39 c = u1.2.2.1 39 c) ∧ (∀ (k : Nat) e, t ≤ k → H[k]? = some e → u.2.2.1 42 e.1 = u1.2.2.1 42 e.1 ∧ u.2.2.1 43 e.1 = u1.2.2.1 43 e.1) ∧ (∃ m, u.1 30 = nI m ∧ m + ((hK ms H t).length + (H.length - t)) = 2000 ∧ ∃ q : Nat → Nat, (∀ i, i < m → u.2.2.1 44 i = nI (q i) ∧ 0 < q i ∧ q i ≤ 2000 ∧ ∀ (k : Nat) e, H[k]? = some e → (t ≤ k ∨ k ∈ ms) → ¬ e.1 = q i) ∧ ∀ i j, i < m → j < m → q i = q j → i = j) ∧ ∀ i, i < 2001 → (u.2.2.1 43 i = 0 ∨ ∃ (k : Nat) (e : Nat × Nat × Nat × Nat), t ≤ k ∧ H[k]? = some e ∧ e.1 = i)
def uK (u : xk_St) (a b1 b2 a3 : Nat) : xk_St := xs_AA (xs_BB (xs_A (xs_A u 43 a 0) 42 a (nI b1)) 12 (va_cpy (u.2.2.2 12) (u.2.2.2 12) b2 b1 a3)) 39 (va_cpy (u.2.2.1 39) (u.2.2.1 39) b2 b1 a3)
theorem cpy_in {f : Nat → α} {sp dp n k : Nat} (h1 : dp ≤ k) (h2 : k < dp + n) : va_cpy f f sp dp n k = f (sp + (k - dp)) := if_pos ⟨h1, h2⟩
theorem cpy_out {f : Nat → α} {sp dp n k : Nat} (h : k < dp ∨ dp + n ≤ k) : va_cpy f f sp dp n k = f k := if_neg (by omega)
/-- an object that goes -/
theorem CIh_n (hz : RHz T H u0 v0) (hI : CIh T H ms t u1 u) (he : H[t]? = some e) (hm : t ∉ ms) (h43 : u.2.2.1 43 e.1 = 0) : ∃ m, u.1 30 = nI m ∧ m < 2000 ∧ CIh T H ms (t + 1) u1 (xs_I (xs_A u 44 m (nI e.1)) 30 (nI (m + 1))) := by
  obtain ⟨h1, h2, h3, h4, ⟨m, m1, m2, q, q1, q2⟩, h6⟩ := hI
  obtain ⟨⟨b1, b2, b3⟩, -⟩ := hz.2.1 t e he
  have htl := yl_lt he
  refine ⟨m, m1, by omega, yf_I (yf_A h1 (by decide)) (by decide), ?_, fun c hc => ?_, fun k e' hk he' => h4 k e' (by omega) he', ⟨m + 1, rfl, by rw [hK_n hm]; omega, fun i => if i = m then e.1 else q i, fun i hi => ?_, fun i j hi hj hij => ?_⟩, fun i hi => ?_⟩
  · rw [hK_n hm]; exact h2
  · refine h3 c ?_
    have := hS_at he
    omega
  · show upd (u.2.2.1 44) m (nI e.1) i = nI (if i = m then e.1 else q i) ∧ 0 < (if i = m then e.1 else q i) ∧ (if i = m then e.1 else q i) ≤ 2000 ∧ ∀ (k : Nat) e', H[k]? = some e' → (t + 1 ≤ k ∨ k ∈ ms) → ¬ e'.1 = (if i = m then e.1 else q i)
    by_cases qi : i = m
    · rw [if_pos qi, qi, ya_t]
      refine ⟨rfl, b1, b2, fun k e' he' hk hq => ?_⟩
      have := hz.2.2.1 k t e' e he' he (Or.inl hq)
      subst this
      rcases hk with hk | hk
      · omega
      · exact hm hk
    · rw [if_neg qi, ya_j qi]
      obtain ⟨a1, a2, a3, a4⟩ := q1 i (by omega)
      exact ⟨a1, a2, a3, fun k e' he' hk => a4 k e' he' (by rcases hk with hk | hk; exact Or.inl (by omega); exact Or.inr hk)⟩
  · have hij : (if i = m then e.1 else q i) = (if j = m then e.1 else q j) := hij
    by_cases qi : i = m
    · by_cases qj : j = m
      · omega
      · rw [if_pos qi, if_neg qj] at hij
        exact absurd hij ((q1 j (by omega)).2.2.2 t e he (Or.inl (Nat.le_refl _)))
    · by_cases qj : j = m
      · rw [if_neg qi, if_pos qj] at hij
        exact absurd hij.symm ((q1 i (by omega)).2.2.2 t e he (Or.inl (Nat.le_refl _)))
      · rw [if_neg qi, if_neg qj] at hij
        exact q2 i j (by omega) (by omega) hij
  · show u.2.2.1 43 i = 0 ∨ _
    rcases h6 i hi with q | ⟨k, e', k1, k2, k3⟩
    · exact Or.inl q
    · by_cases qk : k = t
      · subst qk
        rw [he] at k2; cases k2
        rw [← k3]
        exact Or.inl h43
      · exact Or.inr ⟨k, e', by omega, k2, k3⟩
/-- an object that stays -/
theorem CIh_s (hz : RHz T H u0 v0) (hI : CIh T H ms t u1 u) (he : H[t]? = some e) (hm : t ∈ ms) : CIh T H ms (t + 1) u1 (uK u e.1 (hS (hK ms H t)) (hS (H.take t)) (1 + e.2.2.2)) := by
  obtain ⟨h1, h2, h3, h4, ⟨m, m1, m2, q, q1, q2⟩, h6⟩ := hI
  obtain ⟨⟨b1, b2, b3⟩, -⟩ := hz.2.1 t e he
  have htl := yl_lt he
  obtain ⟨l1, l2⟩ := hK_le (ms := ms) (H := H) (t := t) (by omega)
  have hst := hS_at he
  refine ⟨yf_AA (yf_BB (yf_A (yf_A h1 (by decide)) (by decide)) (by decide)) (by decide), ?_, fun c hc => ?_, fun k e' hk he' => ?_, ⟨m, m1, ?_, q, fun i hi => ?_, q2⟩, fun i hi => ?_⟩
  · rw [hK_s he hm]
    intro j e' hj
    show upd (u.2.2.1 42) e.1 (nI (hS (hK ms H t))) e'.1 = nI (hS ((hK ms H t ++ [e]).take j)) ∧ ∃ k : Nat, H[k]? = some e' ∧ ∀ i, i ≤ e'.2.2.2 → va_cpy (u.2.2.2 12) (u.2.2.2 12) (hS (H.take t)) (hS (hK ms H t)) (1 + e.2.2.2) (hS ((hK ms H t ++ [e]).take j) + i) = u1.2.2.2 12 (hS (H.take k) + i) ∧ va_cpy (u.2.2.1 39) (u.2.2.1 39) (hS (H.take t)) (hS (hK ms H t)) (1 + e.2.2.2) (hS ((hK ms H t ++ [e]).take j) + i) = u1.2.2.1 39 (hS (H.take k) + i)
    by_cases qj : j < (hK ms H t).length
    · rw [List.getElem?_append_left qj] at hj
      obtain ⟨a1, k, a2, a3⟩ := h2 j e' hj
      have htk : (hK ms H t ++ [e]).take j = (hK ms H t).take j := List.take_append_of_le_length (by omega)
      rw [htk]
      obtain ⟨k', k1, k2, k3⟩ := hK_mem hj
      have hne : ¬ e'.1 = e.1 := fun qq => by
        have := hz.2.2.1 k' t e' e k3 he (Or.inl qq)
        omega
      rw [ya_j hne]
      refine ⟨a1, k, a2, fun i hi => ?_⟩
      have htop := hS_top hj
      rw [cpy_out (by omega), cpy_out (by omega)]
      exact a3 i hi
    · have hl := yl_lt hj
      rw [List.length_append, List.length_singleton] at hl
      have hje : j = (hK ms H t).length := by omega
      subst hje
      rw [List.getElem?_append_right (Nat.le_refl _), Nat.sub_self] at hj
      cases hj
      rw [List.take_append_of_le_length (Nat.le_refl _), List.take_of_length_le (Nat.le_refl _), ya_t]
      refine ⟨rfl, t, he, fun i hi => ?_⟩
      have hi : i ≤ e.2.2.2 := hi
      rw [cpy_in (by omega) (by omega), cpy_in (by omega) (by omega), show hS (H.take t) + (hS (hK ms H t) + i - hS (hK ms H t)) = hS (H.take t) + i by omega]
      exact h3 _ (by omega)
  · show va_cpy (u.2.2.2 12) (u.2.2.2 12) (hS (H.take t)) (hS (hK ms H t)) (1 + e.2.2.2) c = _ ∧ va_cpy (u.2.2.1 39) (u.2.2.1 39) (hS (H.take t)) (hS (hK ms H t)) (1 + e.2.2.2) c = _
    rw [cpy_out (by omega), cpy_out (by omega)]
    exact h3 c (by omega)
  · have hne : ¬ e'.1 = e.1 := fun qq => by
      have := hz.2.2.1 k t e' e he' he (Or.inl qq)
      omega
    show upd (u.2.2.1 42) e.1 _ e'.1 = _ ∧ upd (u.2.2.1 43) e.1 0 e'.1 = _
    rw [ya_j hne, ya_j hne]
    exact h4 k e' (by omega) he'
  · rw [hK_s he hm, List.length_append, List.length_singleton]; omega
  · obtain ⟨a1, a2, a3, a4⟩ := q1 i hi
    exact ⟨a1, a2, a3, fun k e' he' hk => a4 k e' he' (by rcases hk with hk | hk; exact Or.inl (by omega); exact Or.inr hk)⟩
  · show upd (u.2.2.1 43) e.1 0 i = 0 ∨ _
    by_cases qi : i = e.1
    · rw [qi, ya_t]; exact Or.inl rfl
    · rw [ya_j qi]
      rcases h6 i hi with q | ⟨k, e', k1, k2, k3⟩
      · exact Or.inl q
      · refine Or.inr ⟨k, e', ?_, k2, k3⟩
        have : ¬ k = t := fun t1 => by
          subst t1
          rw [he] at k2; cases k2
          exact qi k3.symm
        omega
end
