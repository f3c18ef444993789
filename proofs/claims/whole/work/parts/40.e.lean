section
variable {α β γ δ σ τ : Type} {u v w u' v' u0 v0 : xk_St} {T : List (Nat × List Nat × List Nat)} {F : List Nat} {G : List (Nat × Nat × Nat × Int64)} {n fu p q k j d b g m i : Nat} {H H' : rH} {c : Nat} {e : Nat × Nat × Nat × Nat} {ms pl : List Nat} {W : List Nat}
/-- the reference finds all that can be come to -/
theorem mm_dfs {S : Nat → Prop} (hTM : yTM T v0) (hH : RHp T H u0 v0) (hfu : 2100 < fu) : ∀ (j n : Nat) (v : xk_St) (ms pl : List Nat), H.length - ms.length + pl.length = j → j < n → yf_fr [33] [] [40, 41] [] v0 v → MkM H ms pl v → (∀ k, k ∈ ms → k ∉ pl → ∀ k', EH H u0 k k' → k' ∈ ms) → (∀ k, k ∈ ms → Rc S (EH H u0) k) → ∃ v' ms', jb_Model_collect_100 fu n v = jb_Model_collect_188 fu fu 0 0 0 v' ∧ yf_fr [33] [] [40, 41] [] v0 v' ∧ MkM H (ms ++ ms') [] v' ∧ (∀ k, k ∈ ms ++ ms' → Rc S (EH H u0) k) ∧ ∀ k k', k ∈ ms ++ ms' → EH H u0 k k' → k' ∈ ms ++ ms' := by
  obtain ⟨hz, ht⟩ := RHp_iff.mp hH
  obtain ⟨mm, f1, f2, -⟩ := hz.2.2.2.1
  have hH2 : H.length ≤ 2000 := by omega
  intro j
  induction j with
  | zero =>
    intro n v ms pl hj hn hf hM hp hR
    obtain ⟨n, rfl⟩ : ∃ f, n = f + 1 := ⟨n - 1, by omega⟩
    have hpl : pl = [] := List.eq_nil_of_length_eq_zero (by omega)
    subst hpl
    refine ⟨v, [], ?_, hf, by rw [List.append_nil]; exact hM, by rw [List.append_nil]; exact hR, fun k k' hk hE => ?_⟩
    · unfold jb_Model_collect_100
      simp only [xs_let]
      rw [hM.1, if_pos (show nI (List.length ([] : List Nat)) ≤ 0 by decide)]
    · rw [List.append_nil] at hk ⊢
      exact hp k hk (by simp) k' hE
  | succ j ih =>
    intro n v ms pl hj hn hf hM hp hR
    obtain ⟨n, rfl⟩ : ∃ f, n = f + 1 := ⟨n - 1, by omega⟩
    obtain ⟨hl1, hl2⟩ := MkM_len hM
    by_cases c : pl = []
    · subst c
      refine ⟨v, [], ?_, hf, by rw [List.append_nil]; exact hM, by rw [List.append_nil]; exact hR, fun k k' hk hE => ?_⟩
      · unfold jb_Model_collect_100
        simp only [xs_let]
        rw [hM.1, if_pos (show nI (List.length ([] : List Nat)) ≤ 0 by decide)]
      · rw [List.append_nil] at hk ⊢
        exact hp k hk (by simp) k' hE
    · obtain ⟨pl', k, hpe⟩ : ∃ pl' k, pl = pl' ++ [k] := ⟨pl.dropLast, pl.getLast c, (List.dropLast_concat_getLast c).symm⟩
      have hpl : pl.length = pl'.length + 1 := by rw [hpe, List.length_append, List.length_singleton]
      have hkp : pl[pl'.length]? = some k := by rw [hpe, List.getElem?_append_right (Nat.le_refl _), Nat.sub_self]; rfl
      obtain ⟨e, he, h41⟩ := hM.2.2.2.2.2.1 pl'.length k hkp
      obtain ⟨⟨b1, b2, b3⟩, -⟩ := hz.2.1 k e he
      have htop := hS_top he
      have h2000 := hz.1.2.2.1
      have hkm : k ∈ ms := hM.2.2.2.2.1 k (List.mem_of_getElem? hkp)
      have hnd := hM.2.2.2.1
      rw [hpe, List.nodup_append] at hnd
      have hM1 : MkM H ms pl' (xs_I v 33 (nI pl'.length)) := by
        obtain ⟨h1, h2, h3, h4, h5, h6, h7⟩ := hM
        refine ⟨rfl, h2, h3, hnd.1, fun x hx => h5 x (by rw [hpe]; exact List.mem_append_left _ hx), fun i x hx => ?_, h7⟩
        have := yl_lt hx
        exact h6 i x (by rw [hpe, List.getElem?_append_left this]; exact hx)
      have hf1 : yf_fr [33] [] [40, 41] [] v0 (xs_I v 33 (nI pl'.length)) := yf_I hf (by decide)
      obtain ⟨v1, ms1, a1, a2, a3, a4, a5⟩ := mm_129 (fu := fu) (k100 := jb_Model_collect_100 fu n) hTM hH he e.2.2.2 0 fu (xs_I v 33 (nI pl'.length)) ms pl' (by omega) (by omega) hf1 hM1
      have hl3 := (MkM_len a3).1
      rw [List.length_append] at hl3
      have hp1 : ∀ x, x ∈ ms ++ ms1 → x ∉ pl' ++ ms1 → ∀ k', EH H u0 x k' → k' ∈ ms ++ ms1 := fun x hx hxn k' hE => by
        have hx1 : x ∉ ms1 := fun t => hxn (List.mem_append_right _ t)
        have hx2 : x ∉ pl' := fun t => hxn (List.mem_append_left _ t)
        have hx3 : x ∈ ms := by
          rcases List.mem_append.mp hx with q | q
          · exact q
          · exact absurd q hx1
        by_cases q : x = k
        · subst q
          obtain ⟨e', i', g1, g2, g3⟩ := hE
          rw [he] at g1; cases g1
          exact a5 i' k' (by omega) g2 g3
        · refine List.mem_append_left _ (hp x hx3 ?_ k' hE)
          rw [hpe]
          intro t
          rcases List.mem_append.mp t with t | t
          · exact hx2 t
          · exact q (List.mem_singleton.mp t)
      have hR1 : ∀ x, x ∈ ms ++ ms1 → Rc S (EH H u0) x := fun x hx => by
        rcases List.mem_append.mp hx with q | q
        · exact hR x q
        · exact Rc_E (hR k hkm) (a4 x q)
      obtain ⟨v', ms', r1, r2, r3, r4, r5⟩ := ih n v1 (ms ++ ms1) (pl' ++ ms1) (by rw [List.length_append, List.length_append]; omega) (by omega) a2 a3 hp1 hR1
      refine ⟨v', ms1 ++ ms', ?_, r2, by rw [← List.append_assoc]; exact r3, by rw [← List.append_assoc]; exact r4, by rw [← List.append_assoc]; exact r5⟩
      unfold jb_Model_collect_100
      simp only [xs_let]
      rw [hM.1, hpl, if_neg (fun t => by have := (nI_leI (b := 0) (by omega) (by decide)).mp t; omega), nI_pred]
      have w33 : (xs_I v 33 (nI pl'.length)).1 33 = nI pl'.length := rfl
      have w41 : (xs_I v 33 (nI pl'.length)).2.2.1 41 pl'.length = nI e.2.1 := h41
      rw [w33, ix2001 (by omega), show (nI pl'.length).toNatClampNeg = pl'.length from nI_clamp (by omega), w41]
      exact a1.trans r1
theorem mm_clear : ∀ (j i n : Nat) (v : xk_St), i + j = 2001 → j < n → ∃ v', jb_Model_collect_7 fu n (nI i) v = jb_Model_collect_29 fu fu 0 v' ∧ yf_fr [] [] [40] [] v v' ∧ (∀ x, i ≤ x → x < 2001 → v'.2.2.1 40 x = 0) ∧ ∀ x, x < i → v'.2.2.1 40 x = v.2.2.1 40 x := by
  intro j
  induction j with
  | zero =>
    intro i n v hij hn
    obtain ⟨n, rfl⟩ : ∃ f, n = f + 1 := ⟨n - 1, by omega⟩
    refine ⟨v, ?_, yf_refl, fun x h1 h2 => by omega, fun x _ => rfl⟩
    unfold jb_Model_collect_7
    simp only [xs_let]
    rw [if_pos (show (2001 : Int32) ≤ nI i from nI_le (a := 2001) (by omega) (by omega))]
  | succ j ih =>
    intro i n v hij hn
    obtain ⟨n, rfl⟩ : ∃ f, n = f + 1 := ⟨n - 1, by omega⟩
    obtain ⟨v', r1, r2, r3, r4⟩ := ih (i + 1) n (xs_A v 40 i 0) (by omega) (by omega)
    refine ⟨v', ?_, yf_trans (yf_A yf_refl (by decide)) r2, fun x h1 h2 => ?_, fun x hx => ?_⟩
    · unfold jb_Model_collect_7
      simp only [xs_let]
      rw [if_neg (show ¬ (2001 : Int32) ≤ nI i from fun t => by have := (nI_leI (a := 2001) (by omega) (by omega)).mp t; omega), ix2001 (by omega), show (nI i).toNatClampNeg = i from nI_clamp (by omega), bo_01 (Or.inl rfl), nI_1]
      exact r1
    · by_cases q : x = i
      · rw [r4 x (by omega)]
        show upd (v.2.2.1 40) i 0 x = 0
        rw [q, ya_t]
      · exact r3 x (by omega) h2
    · rw [r4 x (by omega)]
      show upd (v.2.2.1 40) i 0 x = _
      rw [ya_j (by omega)]
/-- globals -/
theorem mm_29 (hz : RHz T H u0 v0) (hH2 : H.length ≤ 2000) (hG : G.length ≤ 64) (hRG : RG T H G u0 v0) (h14 : ∀ (k : Nat) a, G[k]? = some a → v0.2.2.1 14 k = nI a.1 ∧ a.1 < 150) (h18 : v0.1 18 = nI G.length) : ∀ (j i n : Nat) (v : xk_St) (ms : List Nat), i + j = G.length → j < n → yf_fr [33] [] [40, 41] [] v0 v → MkM H ms ms v → ∃ v' ms', jb_Model_collect_29 fu n (nI i) v = jb_Model_collect_67 fu fu 0 v' ∧ yf_fr [33] [] [40, 41] [] v0 v' ∧ MkM H (ms ++ ms') (ms ++ ms') v' ∧ (∀ k, k ∈ ms' → ∃ i', i ≤ i' ∧ i' < G.length ∧ tg H (u0.2.2.2 11 i') (u0.2.2.1 38 i') k) ∧ ∀ i' k, i ≤ i' → i' < G.length → tg H (u0.2.2.2 11 i') (u0.2.2.1 38 i') k → k ∈ ms ++ ms' := by
  intro j
  induction j with
  | zero =>
    intro i n v ms hij hn hf hM
    obtain ⟨n, rfl⟩ : ∃ f, n = f + 1 := ⟨n - 1, by omega⟩
    refine ⟨v, [], ?_, hf, by rw [List.append_nil]; exact hM, (fun k hk => by cases hk), fun i' k h1 h2 _ => by omega⟩
    unfold jb_Model_collect_29
    simp only [xs_let]
    rw [hf.1 18 (by decide), h18, if_pos (nI_le (by omega) (by omega))]
  | succ j ih =>
    intro i n v ms hij hn hf hM
    obtain ⟨n, rfl⟩ : ∃ f, n = f + 1 := ⟨n - 1, by omega⟩
    obtain ⟨a, ha⟩ : ∃ a, G[i]? = some a := ⟨_, List.getElem?_eq_getElem (by omega)⟩
    obtain ⟨g1, g2⟩ := h14 i a ha
    have hrv := hRG.2 i a ha
    have head : jb_Model_collect_29 fu (n + 1) (nI i) v = if a.1 < 16 then jb_Model_collect_29 fu n (nI (i + 1)) v else xs_seq (fm_Model_mark (v0.2.2.2 2 i) v) fun _ v1 => jb_Model_collect_29 fu n (nI (i + 1)) v1 := by
      conv => lhs; unfold jb_Model_collect_29
      simp only [xs_let]
      unfold jb_Model_collect_59
      simp only [xs_let]
      rw [hf.1 18 (by decide), h18, if_neg (fun t => by have := (nI_leI (by omega) (by omega)).mp t; omega), if_neg (nI_in (N := 64) (by omega) (by decide)), show (nI i).toNatClampNeg = i from nI_clamp (by omega), hf.2.2.1 14 (by decide), g1, mm_isRef g2, ys_seq, nI_1]
      by_cases q : a.1 < 16
      · rw [if_pos q, if_pos q, if_pos rfl]
      · rw [if_neg q, if_neg q, if_neg (by decide), if_neg (nI_inc (by omega) (by decide)), hf.2.2.2 2 (by simp)]
    by_cases q : a.1 < 16
    · obtain ⟨v', ms', r1, r2, r3, r4, r5⟩ := ih (i + 1) n v ms (by omega) (by omega) hf hM
      refine ⟨v', ms', by rw [head, if_pos q]; exact r1, r2, r3, fun k hk => ?_, fun i' k h1 h2 t => ?_⟩
      · obtain ⟨i', x1, x2, x3⟩ := r4 k hk
        exact ⟨i', by omega, x2, x3⟩
      · by_cases qi : i' = i
        · rw [qi] at t
          have := ((tg_tm hz hrv).mp t).1
          omega
        · exact r5 i' k (by omega) h2 t
    · obtain ⟨v1, ms1, a1, a2, a3, a4, a5⟩ := mm_mark hz hH2 hM hrv (by omega)
      obtain ⟨v', ms', r1, r2, r3, r4, r5⟩ := ih (i + 1) n v1 (ms ++ ms1) (by omega) (by omega) (yf_trans hf a2) a3
      refine ⟨v', ms1 ++ ms', by rw [head, if_neg q, a1, ys_seq]; exact r1, r2, by rw [← List.append_assoc]; exact r3, fun k hk => ?_, fun i' k h1 h2 t => ?_⟩
      · rcases List.mem_append.mp hk with q | q
        · exact ⟨i, Nat.le_refl _, by omega, a4 k q⟩
        · obtain ⟨i', x1, x2, x3⟩ := r4 k q
          exact ⟨i', by omega, x2, x3⟩
      · rw [← List.append_assoc]
        by_cases qi : i' = i
        · rw [qi] at t; exact List.mem_append_left _ (a5 k t)
        · exact r5 i' k (by omega) h2 t
/-- the stack -/
theorem mm_67 (hz : RHz T H u0 v0) (hH2 : H.length ≤ 2000) (hRS : RS T H W u0 v0) : ∀ (j i n : Nat) (v : xk_St) (ms : List Nat), i + j = W.length → j < n → yf_fr [33] [] [40, 41] [] v0 v → MkM H ms ms v → ∃ v' ms', jb_Model_collect_67 fu n (nI i) v = jb_Model_collect_100 fu fu v' ∧ yf_fr [33] [] [40, 41] [] v0 v' ∧ MkM H (ms ++ ms') (ms ++ ms') v' ∧ (∀ k, k ∈ ms' → ∃ i', i ≤ i' ∧ i' < W.length ∧ tg H (u0.2.2.2 10 i') (u0.2.2.1 37 i') k) ∧ ∀ i' k, i ≤ i' → i' < W.length → tg H (u0.2.2.2 10 i') (u0.2.2.1 37 i') k → k ∈ ms ++ ms' := by
  have hW := hRS.2.2.1
  intro j
  induction j with
  | zero =>
    intro i n v ms hij hn hf hM
    obtain ⟨n, rfl⟩ : ∃ f, n = f + 1 := ⟨n - 1, by omega⟩
    refine ⟨v, [], ?_, hf, by rw [List.append_nil]; exact hM, (fun k hk => by cases hk), fun i' k h1 h2 _ => by omega⟩
    unfold jb_Model_collect_67
    simp only [xs_let]
    rw [hf.1 26 (by decide), hRS.2.1, if_pos (nI_le (by omega) (by omega))]
  | succ j ih =>
    intro i n v ms hij hn hf hM
    obtain ⟨n, rfl⟩ : ∃ f, n = f + 1 := ⟨n - 1, by omega⟩
    obtain ⟨c, hc⟩ : ∃ c, W[i]? = some c := ⟨_, List.getElem?_eq_getElem (by omega)⟩
    obtain ⟨hrv, h29⟩ := hRS.2.2.2 i c hc
    have head : jb_Model_collect_67 fu (n + 1) (nI i) v = if 16 ≤ c then xs_seq (fm_Model_mark (v0.2.2.2 3 i) v) (fun _ v1 => jb_Model_collect_67 fu n (nI (i + 1)) v1) else jb_Model_collect_67 fu n (nI (i + 1)) v := by
      conv => lhs; unfold jb_Model_collect_67
      simp only [xs_let]
      unfold jb_Model_collect_94
      simp only [xs_let]
      rw [hf.1 26 (by decide), hRS.2.1, if_neg (fun t => by have := (nI_leI (by omega) (by omega)).mp t; omega), ix19 (by omega), ix19 (by omega), show (nI i).toNatClampNeg = i from nI_clamp (by omega), hf.2.2.1 29 (by decide), h29, hf.2.2.2 3 (by simp), nI_1]
      by_cases q : 16 ≤ c
      · rw [if_pos q, if_pos q, if_neg (by decide)]
      · rw [if_neg q, if_neg q, if_pos rfl]
    by_cases q : 16 ≤ c
    · obtain ⟨v1, ms1, a1, a2, a3, a4, a5⟩ := mm_mark hz hH2 hM hrv q
      obtain ⟨v', ms', r1, r2, r3, r4, r5⟩ := ih (i + 1) n v1 (ms ++ ms1) (by omega) (by omega) (yf_trans hf a2) a3
      refine ⟨v', ms1 ++ ms', by rw [head, if_pos q, a1, ys_seq]; exact r1, r2, by rw [← List.append_assoc]; exact r3, fun k hk => ?_, fun i' k h1 h2 t => ?_⟩
      · rcases List.mem_append.mp hk with q | q
        · exact ⟨i, Nat.le_refl _, by omega, a4 k q⟩
        · obtain ⟨i', x1, x2, x3⟩ := r4 k q
          exact ⟨i', by omega, x2, x3⟩
      · rw [← List.append_assoc]
        by_cases qi : i' = i
        · rw [qi] at t; exact List.mem_append_left _ (a5 k t)
        · exact r5 i' k (by omega) h2 t
    · obtain ⟨v', ms', r1, r2, r3, r4, r5⟩ := ih (i + 1) n v ms (by omega) (by omega) hf hM
      refine ⟨v', ms', by rw [head, if_neg q]; exact r1, r2, r3, fun k hk => ?_, fun i' k h1 h2 t => ?_⟩
      · obtain ⟨i', x1, x2, x3⟩ := r4 k hk
        exact ⟨i', by omega, x2, x3⟩
      · by_cases qi : i' = i
        · rw [qi] at t
          have := ((tg_tm hz hrv).mp t).1
          omega
        · exact r5 i' k (by omega) h2 t
/-- all the marking of the reference -/
theorem mm_all (hfu : 18000 < fu) (hTM : yTM T v) (hRS : RS T H W u v) (hH : RHp T H u v) (hRG : RG T H G u v) (hG : G.length ≤ 64) (h14 : ∀ (k : Nat) a, G[k]? = some a → v.2.2.1 14 k = nI a.1 ∧ a.1 < 150) (h18 : v.1 18 = nI G.length) : ∃ v' ms, fm_Model_collect fu v = jb_Model_collect_188 fu fu 0 0 0 v' ∧ yf_fr [33] [] [40, 41] [] v v' ∧ MkM H ms [] v' ∧ ∀ k, k ∈ ms ↔ Rc (SH H W.length G.length u) (EH H u) k := by
  obtain ⟨hz, ht⟩ := RHp_iff.mp hH
  obtain ⟨mm, f1, f2, -⟩ := hz.2.2.2.1
  have hH2 : H.length ≤ 2000 := by omega
  have hW := hRS.2.2.1
  obtain ⟨v1, a1, a2, a3, -⟩ := mm_clear (fu := fu) 2001 0 fu (xs_I v 33 0) (by omega) (by omega)
  have hf1 : yf_fr [33] [] [40, 41] [] v v1 := yf_trans (yf_I yf_refl (by decide)) (yf_mono a2 (by decide))
  have hM0 : MkM H [] [] v1 := by
    refine ⟨a2.1 33 (by decide), List.nodup_nil, (fun k hk => by cases hk), List.nodup_nil, (fun k hk => by cases hk), (fun i k hk => by cases hk), fun k e he => ?_⟩
    obtain ⟨⟨b1, b2, b3⟩, -⟩ := hz.2.1 k e he
    rw [if_neg (by simp)]
    exact a3 e.2.1 (by omega) (by omega)
  obtain ⟨v2, ms2, b1, b2, b3, b4, b5⟩ := mm_29 (fu := fu) hz hH2 hG hRG h14 h18 G.length 0 fu v1 [] (by omega) (by omega) hf1 hM0
  rw [List.nil_append] at b3 b5
  obtain ⟨v3, ms3, c1, c2, c3, c4, c5⟩ := mm_67 (fu := fu) hz hH2 hRS W.length 0 fu v2 ms2 (by omega) (by omega) b2 b3
  have hR3 : ∀ k, k ∈ ms2 ++ ms3 → Rc (SH H W.length G.length u) (EH H u) k := fun k hk => by
    rcases List.mem_append.mp hk with q | q
    · obtain ⟨i', h1, h2, h3⟩ := b4 k q
      exact Rc_S (Or.inr ⟨i', h2, h3⟩)
    · obtain ⟨i', h1, h2, h3⟩ := c4 k q
      exact Rc_S (Or.inl ⟨i', h2, h3⟩)
  have hl := (MkM_len c3).1
  obtain ⟨v4, ms4, d1, d2, d3, d4, d5⟩ := mm_dfs (fu := fu) (S := SH H W.length G.length u) hTM hH (by omega) H.length fu v3 (ms2 ++ ms3) (ms2 ++ ms3) (by omega) (by omega) c2 c3 (fun k hk hn => absurd hk hn) hR3
  refine ⟨v4, _, ?_, d2, d3, fun k => ⟨d4 k, fun hr => hr (fun k => k ∈ ms2 ++ ms3 ++ ms4) (fun k hS => ?_) d5⟩⟩
  · unfold fm_Model_collect
    simp only [xs_let]
    have a1' : jb_Model_collect_7 fu fu 0 (xs_I v 33 0) = jb_Model_collect_29 fu fu 0 v1 := a1
    have b1' : jb_Model_collect_29 fu fu 0 v1 = jb_Model_collect_67 fu fu 0 v2 := b1
    have c1' : jb_Model_collect_67 fu fu 0 v2 = jb_Model_collect_100 fu fu v3 := c1
    rw [a1', b1', c1', d1]
  · refine List.mem_append_left _ ?_
    rcases hS with ⟨i, h1, h2⟩ | ⟨i, h1, h2⟩
    · exact c5 i k (by omega) h1 h2
    · exact List.mem_append_left _ (b5 i k (by omega) h1 h2)
end
