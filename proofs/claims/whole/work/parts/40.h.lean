section
variable {α β γ δ σ τ : Type} {u v w u' v' u0 v0 u1 v1 : xk_St} {T : List (Nat × List Nat × List Nat)} {F : List Nat} {G : List (Nat × Nat × Nat × Int64)} {n fu p q k j d b g m i t : Nat} {H H' : rH} {c : Nat} {e : Nat × Nat × Nat × Nat} {ms pl : List Nat} {W : List Nat}
/-- the parts of one object move down -/
theorem mm_247 {k188 : Int32 → Int32 → Int32 → xk_St → Option (Unit × xk_St)} {b1 b2 b3 ix a5 sz : Nat} (hix : ix ≤ 2000) (hle : b2 + 1 ≤ a5) (htop : a5 + sz ≤ 2000) (hb1 : b1 ≤ 2000) : ∀ (j i n : Nat) (v : xk_St), i + j = sz → j < n → v.2.2.1 38 ix = nI sz → ∃ v', jb_Model_collect_247 fu k188 n (nI b1) (nI b2) (nI b3) (nI ix) (nI a5) (nI i) v = k188 (nI (b1 + 1)) (nI (b2 + (1 + sz))) (nI (b3 + 1)) (xs_A v' 42 b1 (nI ix)) ∧ yf_fr [] [] [] [5] v v' ∧ (∀ c, c < b2 + 1 + i ∨ b2 + 1 + sz ≤ c → v'.2.2.2 5 c = v.2.2.2 5 c) ∧ ∀ i', i ≤ i' → i' < sz → v'.2.2.2 5 (b2 + 1 + i') = v.2.2.2 5 (a5 + i') := by
  intro j
  induction j with
  | zero =>
    intro i n v hij hn h38
    obtain ⟨n, rfl⟩ : ∃ f, n = f + 1 := ⟨n - 1, by omega⟩
    refine ⟨v, ?_, yf_refl, fun c _ => rfl, fun i' h1 h2 => by omega⟩
    unfold jb_Model_collect_247 jb_Model_collect_309
    simp only [xs_let]
    rw [ix2001 (by omega), ix2001 (by omega), show (nI ix).toNatClampNeg = ix from nI_clamp (by omega), h38, if_pos (nI_le (by omega) (by omega)), ix2001 (by omega), show (nI b1).toNatClampNeg = b1 from nI_clamp (by omega), nI_1, nI_1, show (1 : Int32) + nI sz = nI (1 + sz) from nI_add 1 _, nI_add]
  | succ j ih =>
    intro i n v hij hn h38
    obtain ⟨n, rfl⟩ : ∃ f, n = f + 1 := ⟨n - 1, by omega⟩
    obtain ⟨v', r1, r2, r3, r4⟩ := ih (i + 1) n (xs_B v 5 (b2 + 1 + i) (v.2.2.2 5 (a5 + i))) (by omega) (by omega) h38
    refine ⟨v', ?_, yf_trans (yf_B yf_refl (by decide)) r2, fun c hc => ?_, fun i' h1 h2 => ?_⟩
    · rw [← r1]
      conv => lhs; unfold jb_Model_collect_247
      simp only [xs_let]
      rw [ix2001 (by omega), show (nI ix).toNatClampNeg = ix from nI_clamp (by omega), h38, if_neg (fun t => by have := (nI_leI (by omega) (by omega)).mp t; omega), nI_1, nI_add, nI_add, ix2001 (by omega), ix2001 (by omega), show (nI (a5 + i)).toNatClampNeg = a5 + i from nI_clamp (by omega), show (nI (b2 + 1 + i)).toNatClampNeg = b2 + 1 + i from nI_clamp (by omega), nI_1]
    · rw [r3 c (by omega)]
      show vp_updL (v.2.2.2 5) (b2 + 1 + i) _ c = _
      rw [yb_j (by omega)]
    · by_cases q : i' = i
      · rw [r3 _ (by omega)]
        show vp_updL (v.2.2.2 5) (b2 + 1 + i) _ (b2 + 1 + i') = _
        rw [q, yb_t]
      · rw [r4 i' (by omega) h2]
        show vp_updL (v.2.2.2 5) (b2 + 1 + i) _ (a5 + i') = _
        rw [yb_j (by omega)]
/-- the reference while it moves its objects together -/
def CIm (T : List (Nat × List Nat × List Nat)) (H : rH) (ms : List Nat) (t : Nat) (v1 v : xk_St) : Prop := yf_fr [] [] [37, 38, 42] [5] v1 v ∧ (∀ (j : Nat) e, (hK ms H t)[j]? = some e → v.2.2.1 37 e.2.1 = nI (hS ((hK ms H t).take j) + 1) ∧ v.2.2.1 42 j = nI e.2.1 ∧ v.2.2.1 38 e.2.1 = v1.2.2.1 38 e.2.1 ∧ ∃ k : Nat, H[k]? = some e ∧ ∀ i, i < e.2.2.2 → v.2.2.2 5 (hS ((hK ms H t).take j) + 1 + i) = v1.2.2.2 5 (hS (H.take k) + 1 + i)) ∧ (∀ c, hS (H.take t) < c → v.2.2.2 5 c = v1.2.2.2 5 c) ∧ (∀ (k : Nat) e, t ≤ k → H[k]? = some e → v.2.2.1 37 e.2.1 = v1.2.2.1 37 e.2.1 ∧ v.2.2.1 38 e.2.1 = v1.2.2.1 38 e.2.1 ∧ v.2.2.1 42 k = v1.2.2.1 42 k) ∧ ∀ i, i < 2001 → (∃ (k : Nat) (e : Nat × Nat × Nat × Nat), (t ≤ k ∨ k ∈ ms) ∧ H[k]? = some e ∧ e.2.1 = i) ∨ v.2.2.1 38 i = -1
theorem CIm_0 (hz : RHz T H u0 v0) (h38 : v1.2.2.1 38 = v0.2.2.1 38) : CIm T H ms 0 v1 v1 := by
  refine ⟨yf_refl, (fun j e hj => by cases hj), fun c _ => rfl, fun k e _ _ => ⟨rfl, rfl, rfl⟩, fun i hi => ?_⟩
  rcases hz.2.2.2.2.1 i hi with ⟨k, e, k1, k2⟩ | q
  · exact Or.inl ⟨k, e, Or.inl (by omega), k1, k2⟩
  · rw [h38]; exact Or.inr q
theorem CIm_n (hz : RHz T H u0 v0) (hI : CIm T H ms t v1 v) (he : H[t]? = some e) (hm : t ∉ ms) : CIm T H ms (t + 1) v1 (xs_A v 38 e.2.1 (-1)) := by
  obtain ⟨h1, h2, h3, h4, h5⟩ := hI
  have hst := hS_at he
  refine ⟨yf_A h1 (by decide), ?_, fun c hc => h3 c (by omega), fun k e' hk he' => ?_, fun i hi => ?_⟩
  · rw [hK_n hm]
    intro j e' hj
    obtain ⟨a1, a2, a3, a4⟩ := h2 j e' hj
    obtain ⟨k', k1, k2, k3⟩ := hK_mem hj
    have hne : ¬ e'.2.1 = e.2.1 := fun qq => by
      have := hz.2.2.1 k' t e' e k3 he (Or.inr qq)
      omega
    refine ⟨a1, a2, ?_, a4⟩
    show upd (v.2.2.1 38) e.2.1 (-1) e'.2.1 = _
    rw [ya_j hne]; exact a3
  · obtain ⟨a1, a2, a3⟩ := h4 k e' (by omega) he'
    have hne : ¬ e'.2.1 = e.2.1 := fun qq => by
      have := hz.2.2.1 k t e' e he' he (Or.inr qq)
      omega
    refine ⟨a1, ?_, a3⟩
    show upd (v.2.2.1 38) e.2.1 (-1) e'.2.1 = _
    rw [ya_j hne]; exact a2
  · show _ ∨ upd (v.2.2.1 38) e.2.1 (-1) i = -1
    by_cases qi : i = e.2.1
    · rw [qi, ya_t]; exact Or.inr rfl
    · rw [ya_j qi]
      rcases h5 i hi with ⟨k, e', k1, k2, k3⟩ | q
      · refine Or.inl ⟨k, e', ?_, k2, k3⟩
        rcases k1 with k1 | k1
        · have : ¬ k = t := fun tt => by
            subst tt
            rw [he] at k2; cases k2
            exact qi k3.symm
          exact Or.inl (by omega)
        · exact Or.inr k1
      · exact Or.inr q
theorem CIm_s {vv : xk_St} (hz : RHz T H u0 v0) (hI : CIm T H ms t v1 v) (he : H[t]? = some e) (hm : t ∈ ms) (hf : yf_fr [] [] [] [5] (xs_A v 37 e.2.1 (nI (hS (hK ms H t) + 1))) vv) (hout : ∀ c, c < hS (hK ms H t) + 1 ∨ hS (hK ms H t) + 1 + e.2.2.2 ≤ c → vv.2.2.2 5 c = v.2.2.2 5 c) (hin : ∀ i, i < e.2.2.2 → vv.2.2.2 5 (hS (hK ms H t) + 1 + i) = v.2.2.2 5 (hS (H.take t) + 1 + i)) : CIm T H ms (t + 1) v1 (xs_A vv 42 (hK ms H t).length (nI e.2.1)) := by
  obtain ⟨h1, h2, h3, h4, h5⟩ := hI
  have hst := hS_at he
  have htl := yl_lt he
  obtain ⟨l1, l2⟩ := hK_le (ms := ms) (H := H) (t := t) (by omega)
  have e37 : ∀ x, vv.2.2.1 37 x = upd (v.2.2.1 37) e.2.1 (nI (hS (hK ms H t) + 1)) x := fun x => by rw [hf.2.2.1 37 (by decide)]; rfl
  have e38 : ∀ x, vv.2.2.1 38 x = v.2.2.1 38 x := fun x => by rw [hf.2.2.1 38 (by decide)]; rfl
  have e42 : ∀ x, (xs_A vv 42 (hK ms H t).length (nI e.2.1)).2.2.1 42 x = upd (v.2.2.1 42) (hK ms H t).length (nI e.2.1) x := fun x => by
    show upd (vv.2.2.1 42) (hK ms H t).length (nI e.2.1) x = _
    rw [hf.2.2.1 42 (by decide)]; rfl
  refine ⟨yf_A (yf_trans (yf_A h1 (by decide)) (yf_mono hf (by decide))) (by decide), ?_, fun c hc => ?_, fun k e' hk he' => ?_, fun i hi => ?_⟩
  · rw [hK_s he hm]
    intro j e' hj
    show vv.2.2.1 37 e'.2.1 = nI (hS ((hK ms H t ++ [e]).take j) + 1) ∧ (xs_A vv 42 (hK ms H t).length (nI e.2.1)).2.2.1 42 j = nI e'.2.1 ∧ vv.2.2.1 38 e'.2.1 = v1.2.2.1 38 e'.2.1 ∧ ∃ k : Nat, H[k]? = some e' ∧ ∀ i, i < e'.2.2.2 → vv.2.2.2 5 (hS ((hK ms H t ++ [e]).take j) + 1 + i) = v1.2.2.2 5 (hS (H.take k) + 1 + i)
    rw [e37, e38, e42]
    by_cases qj : j < (hK ms H t).length
    · rw [List.getElem?_append_left qj] at hj
      obtain ⟨a1, a2, a3, k, a4, a5⟩ := h2 j e' hj
      have htk : (hK ms H t ++ [e]).take j = (hK ms H t).take j := List.take_append_of_le_length (by omega)
      rw [htk]
      obtain ⟨k', k1, k2, k3⟩ := hK_mem hj
      have hne : ¬ e'.2.1 = e.2.1 := fun qq => by
        have := hz.2.2.1 k' t e' e k3 he (Or.inr qq)
        omega
      rw [ya_j hne, ya_j (by omega)]
      refine ⟨a1, a2, a3, k, a4, fun i hi => ?_⟩
      have htop := hS_top hj
      rw [hout _ (by omega)]
      exact a5 i hi
    · have hl := yl_lt hj
      rw [List.length_append, List.length_singleton] at hl
      have hje : j = (hK ms H t).length := by omega
      subst hje
      rw [List.getElem?_append_right (Nat.le_refl _), Nat.sub_self] at hj
      cases hj
      rw [List.take_append_of_le_length (Nat.le_refl _), List.take_of_length_le (Nat.le_refl _), ya_t, ya_t]
      obtain ⟨a1, a2, a3⟩ := h4 t e (Nat.le_refl _) he
      refine ⟨rfl, rfl, a2, t, he, fun i hi => ?_⟩
      rw [hin i hi]
      exact h3 _ (by omega)
  · show vv.2.2.2 5 c = _
    rw [hout c (by omega)]
    exact h3 c (by omega)
  · obtain ⟨a1, a2, a3⟩ := h4 k e' (by omega) he'
    have hne : ¬ e'.2.1 = e.2.1 := fun qq => by
      have := hz.2.2.1 k t e' e he' he (Or.inr qq)
      omega
    show vv.2.2.1 37 e'.2.1 = _ ∧ vv.2.2.1 38 e'.2.1 = _ ∧ (xs_A vv 42 (hK ms H t).length (nI e.2.1)).2.2.1 42 k = _
    rw [e37, e38, e42, ya_j hne, ya_j (by omega)]
    exact ⟨a1, a2, a3⟩
  · show _ ∨ vv.2.2.1 38 i = -1
    rw [e38]
    rcases h5 i hi with ⟨k, e', k1, k2, k3⟩ | q
    · refine Or.inl ⟨k, e', ?_, k2, k3⟩
      rcases k1 with k1 | k1
      · by_cases q : k = t
        · rw [q]; exact Or.inr hm
        · exact Or.inl (by omega)
      · exact Or.inr k1
    · exact Or.inr q
/-- the reference moves its objects together -/
theorem mm_move (hfu : 2100 < fu) (hz : RHz T H u0 v0) (hf : yf_fr [33] [] [40, 41] [] v0 v1) (h40 : ∀ (k : Nat) e, H[k]? = some e → v1.2.2.1 40 e.2.1 = if k ∈ ms then 1 else 0) (hH2 : H.length ≤ 2000) : ∀ (j t n : Nat) (v : xk_St), t + j = H.length → j < n → CIm T H ms t v1 v → ∃ v', jb_Model_collect_188 fu n (nI (hK ms H t).length) (nI (hS (hK ms H t))) (nI t) v = some ((), xs_I (xs_I v' 34 (nI (hK ms H H.length).length)) 32 (nI (hS (hK ms H H.length)))) ∧ CIm T H ms H.length v1 v' := by
  have h2000 := hz.1.2.2.1
  intro j
  induction j with
  | zero =>
    intro t n v htj hn hI
    obtain ⟨n, rfl⟩ : ∃ f, n = f + 1 := ⟨n - 1, by omega⟩
    have ht : t = H.length := by omega
    subst ht
    refine ⟨v, ?_, hI⟩
    unfold jb_Model_collect_188
    simp only [xs_let]
    rw [hI.1.1 34 (by simp), hf.1 34 (by decide), hz.1.2.2.2, if_pos (nI_le (by omega) (by omega))]
  | succ j ih =>
    intro t n v htj hn hI
    obtain ⟨n, rfl⟩ : ∃ f, n = f + 1 := ⟨n - 1, by omega⟩
    obtain ⟨e, he⟩ : ∃ e, H[t]? = some e := ⟨_, List.getElem?_eq_getElem (by omega)⟩
    obtain ⟨⟨b1, b2, b3⟩, -, ⟨o1, o2, o3, o4⟩, -⟩ := hz.2.1 t e he
    have htop := hS_top he
    have hst := hS_at he
    obtain ⟨l1, l2⟩ := hK_le (ms := ms) (H := H) (t := t) (by omega)
    obtain ⟨c1, c2, c3⟩ := hI.2.2.2.1 t e (Nat.le_refl _) he
    have v42 : v.2.2.1 42 t = nI e.2.1 := by rw [c3, hf.2.2.1 42 (by decide)]; exact o4
    have v37 : v.2.2.1 37 e.2.1 = nI (hS (H.take t) + 1) := by rw [c1, hf.2.2.1 37 (by decide)]; exact o1
    have v38 : v.2.2.1 38 e.2.1 = nI e.2.2.2 := by rw [c2, hf.2.2.1 38 (by decide)]; exact o2
    have v40 : v.2.2.1 40 e.2.1 = if t ∈ ms then 1 else 0 := by rw [hI.1.2.2.1 40 (by decide)]; exact h40 t e he
    have v34 : v.1 34 = nI H.length := by rw [hI.1.1 34 (by simp), hf.1 34 (by decide)]; exact hz.1.2.2.2
    have step : jb_Model_collect_188 fu (n + 1) (nI (hK ms H t).length) (nI (hS (hK ms H t))) (nI t) v = if t ∈ ms then jb_Model_collect_247 fu (jb_Model_collect_188 fu n) fu (nI (hK ms H t).length) (nI (hS (hK ms H t))) (nI t) (nI e.2.1) (nI (hS (H.take t) + 1)) 0 (xs_A v 37 e.2.1 (nI (hS (hK ms H t) + 1))) else jb_Model_collect_188 fu n (nI (hK ms H t).length) (nI (hS (hK ms H t))) (nI (t + 1)) (xs_A v 38 e.2.1 (-1)) := by
      conv => lhs; unfold jb_Model_collect_188
      simp only [xs_let]
      unfold jb_Model_collect_309
      simp only [xs_let]
      rw [v34, if_neg (fun t => by have := (nI_leI (by omega) (by omega)).mp t; omega), ix2001 (by omega), show (nI t).toNatClampNeg = t from nI_clamp (by omega), v42, ix2001 (by omega), ix2001 (by omega), ix2001 (by omega), ix2001 (by omega), show (nI e.2.1).toNatClampNeg = e.2.1 from nI_clamp (by omega), v40, v37, nI_1, nI_1]
      by_cases hm : t ∈ ms
      · rw [if_pos hm, if_pos hm, if_neg (by decide)]
      · rw [if_neg hm, if_neg hm, if_pos rfl]
    rw [step]
    by_cases hm : t ∈ ms
    · rw [if_pos hm]
      obtain ⟨vv, r1, r2, r3, r4⟩ := mm_247 (fu := fu) (k188 := jb_Model_collect_188 fu n) (b1 := (hK ms H t).length) (b2 := hS (hK ms H t)) (b3 := t) (ix := e.2.1) (a5 := hS (H.take t) + 1) (sz := e.2.2.2) b3 (by omega) (by omega) (by omega) e.2.2.2 0 fu (xs_A v 37 e.2.1 (nI (hS (hK ms H t) + 1))) (by omega) (by omega) v38
      have r1' : jb_Model_collect_247 fu (jb_Model_collect_188 fu n) fu (nI (hK ms H t).length) (nI (hS (hK ms H t))) (nI t) (nI e.2.1) (nI (hS (H.take t) + 1)) 0 (xs_A v 37 e.2.1 (nI (hS (hK ms H t) + 1))) = _ := r1
      rw [r1']
      have hI' := CIm_s hz hI he hm r2 (fun c hc => r3 c (by omega)) (fun i hi => r4 i (by omega) hi)
      obtain ⟨v', s1, s2⟩ := ih (t + 1) n _ (by omega) (by omega) hI'
      refine ⟨v', ?_, s2⟩
      have e1 : hS (hK ms H (t + 1)) = hS (hK ms H t) + (1 + e.2.2.2) := by
        rw [hK_s he hm, hS_app]
        have : hS [e] = 1 + e.2.2.2 + 0 := rfl
        omega
      have e2 : (hK ms H (t + 1)).length = (hK ms H t).length + 1 := by rw [hK_s he hm, List.length_append, List.length_singleton]
      rw [e1, e2] at s1
      exact s1
    · rw [if_neg hm]
      have hI' := CIm_n hz hI he hm
      obtain ⟨v', s1, s2⟩ := ih (t + 1) n _ (by omega) (by omega) hI'
      refine ⟨v', ?_, s2⟩
      rw [hK_n hm] at s1
      exact s1
end
