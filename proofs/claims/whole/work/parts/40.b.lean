section
variable {α β γ δ σ τ : Type} {u v w u' v' u0 v0 : xk_St} {T : List (Nat × List Nat × List Nat)} {F : List Nat} {n fu p q k j d b g m i : Nat} {H H' : rH} {c : Nat} {e : Nat × Nat × Nat × Nat} {ms : List Nat}
/-- the three searches of the class as one -/
noncomputable def hfind (bd A C : Nat) : Nat → Int32 → Int32 → xk_St → Option (Unit × xk_St)
  | 0 => fun _ _ _ => none
  | n + 1 => fun b3 b4 u =>
    if b3 ≤ b4 then (some ((()), u)) else ((if b4 < 0 ∨ bd ≤ b4.toNatClampNeg then none else if (u.2.2.1 A b4.toNatClampNeg) = (0 : Int32) then (hfind bd A C n b3 (b4 + 1) u) else ((if b4 < 0 ∨ bd ≤ b4.toNatClampNeg then none else if (u.2.2.2 C b4.toNatClampNeg) ≤ (0 : Int64) then (hfind bd A C n b3 (b4 + 1) u) else ((if b4 < 0 ∨ bd ≤ b4.toNatClampNeg then none else if ((u.2.2.2 C b4.toNatClampNeg).toInt32) < 0 ∨ 2001 ≤ ((u.2.2.2 C b4.toNatClampNeg).toInt32).toNatClampNeg then none else if (u.2.2.1 43 ((u.2.2.2 C b4.toNatClampNeg).toInt32).toNatClampNeg) = (0 : Int32) then ((if b4 < 0 ∨ bd ≤ b4.toNatClampNeg then none else if ((u.2.2.2 C b4.toNatClampNeg).toInt32) < 0 ∨ 2001 ≤ ((u.2.2.2 C b4.toNatClampNeg).toInt32).toNatClampNeg then none else xs_let (xs_A u 43 ((u.2.2.2 C b4.toNatClampNeg).toInt32).toNatClampNeg (vp_nar .boolean (1 : Int32))) fun u2 => if b4 < 0 ∨ bd ≤ b4.toNatClampNeg then none else if (u2.1 31) < 0 ∨ 2000 ≤ (u2.1 31).toNatClampNeg then none else xs_let (xs_A u2 45 (u2.1 31).toNatClampNeg ((u2.2.2.2 C b4.toNatClampNeg).toInt32)) fun u3 => xs_let (xs_I u3 31 ((u3.1 31) + (1 : Int32))) fun u4 => hfind bd A C n b3 (b4 + 1) u4)) else (hfind bd A C n b3 (b4 + 1) u)))))))
theorem hf_1 : ∀ n, jb_Heap_find_3 fu n = hfind 18000 37 10 n := by
  intro n
  induction n with
  | zero => rfl
  | succ n ih =>
    funext b3 b4 u
    unfold jb_Heap_find_3 jb_Heap_find_88 hfind
    rw [ih]; rfl
theorem hf_2 : ∀ n, jb_Heap_find__h67_64_3 fu n = hfind 64 38 11 n := by
  intro n
  induction n with
  | zero => rfl
  | succ n ih =>
    funext b3 b4 u
    unfold jb_Heap_find__h67_64_3 jb_Heap_find__h67_64_88 hfind
    rw [ih]; rfl
theorem hf_3 : ∀ n, jb_Heap_find__h67_68_3 fu n = hfind 2000 39 12 n := by
  intro n
  induction n with
  | zero => rfl
  | succ n ih =>
    funext b3 b4 u
    unfold jb_Heap_find__h67_68_3 jb_Heap_find__h67_68_88 hfind
    rw [ih]; rfl
theorem hf_all {bd A C : Nat} (hz : RHz T H u0 v0) (hH : H.length ≤ 2000) (hb : b ≤ bd) (hbd : bd ≤ 18000) (hA : ¬ A = 43 ∧ ¬ A = 45) : ∀ (j i n : Nat) (u : xk_St) (ms : List Nat), i + j = b → j < n → (∀ i', i ≤ i' → i' < b → ∃ c xm, rv T H c (u.2.2.2 C i') (u.2.2.1 A i') xm) → MkH H ms u → ∃ u' ms', hfind bd A C n (nI b) (nI i) u = some ((), u') ∧ yf_fr [31] [] [43, 45] [] u u' ∧ MkH H (ms ++ ms') u' ∧ (∀ k, k ∈ ms' → ∃ i', i ≤ i' ∧ i' < b ∧ tg H (u.2.2.2 C i') (u.2.2.1 A i') k) ∧ ∀ i' k, i ≤ i' → i' < b → tg H (u.2.2.2 C i') (u.2.2.1 A i') k → k ∈ ms ++ ms' := by
  intro j
  induction j with
  | zero =>
    intro i n u ms hij hn hs hM
    obtain ⟨n, rfl⟩ : ∃ f, n = f + 1 := ⟨n - 1, by omega⟩
    refine ⟨u, [], ?_, yf_refl, by rw [List.append_nil]; exact hM, (fun k hk => by cases hk), fun i' k h1 h2 _ => by omega⟩
    unfold hfind
    rw [if_pos (nI_le (by omega) (by omega))]
  | succ j ih =>
    intro i n u ms hij hn hs hM
    obtain ⟨n, rfl⟩ : ∃ f, n = f + 1 := ⟨n - 1, by omega⟩
    have hib : i < b := by omega
    obtain ⟨c, xm, hr⟩ := hs i (Nat.le_refl _) hib
    have ixb : ∀ {α : Type} {o : Option (α × xk_St)}, (if nI i < 0 ∨ bd ≤ (nI i).toNatClampNeg then none else o) = o := fun {α o} => if_neg (nI_in (N := bd) (by omega) (by omega))
    have hcl : (nI i).toNatClampNeg = i := nI_clamp (by omega)
    have skip : (∀ k, ¬ tg H (u.2.2.2 C i) (u.2.2.1 A i) k) ∨ (∃ k, k ∈ ms ∧ ∀ k', tg H (u.2.2.2 C i) (u.2.2.1 A i) k' → k' = k) → ∃ u' ms', hfind bd A C n (nI b) (nI i + 1) u = some ((), u') ∧ yf_fr [31] [] [43, 45] [] u u' ∧ MkH H (ms ++ ms') u' ∧ (∀ k, k ∈ ms' → ∃ i', i ≤ i' ∧ i' < b ∧ tg H (u.2.2.2 C i') (u.2.2.1 A i') k) ∧ ∀ i' k, i ≤ i' → i' < b → tg H (u.2.2.2 C i') (u.2.2.1 A i') k → k ∈ ms ++ ms' := by
      intro hsk
      obtain ⟨u', ms', e1, e2, e3, e4, e5⟩ := ih (i + 1) n u ms (by omega) (by omega) (fun i' h1 h2 => hs i' (by omega) h2) hM
      refine ⟨u', ms', by rw [nI_1]; exact e1, e2, e3, fun k hk => ?_, fun i' k h1 h2 ht => ?_⟩
      · obtain ⟨i', a1, a2, a3⟩ := e4 k hk
        exact ⟨i', by omega, a2, a3⟩
      · by_cases q : i' = i
        · subst q
          rcases hsk with t | ⟨k0, t1, t2⟩
          · exact absurd ht (t k)
          · rw [t2 k ht]; exact List.mem_append_left _ t1
        · exact e5 i' k (by omega) h2 ht
    unfold hfind
    rw [if_neg (fun t => by have := (nI_leI (by omega) (by omega)).mp t; omega), ixb, ixb, ixb, ixb, hcl]
    rcases sl_h hz hr with ⟨f0, ht⟩ | ⟨f0, f1, ht⟩ | ⟨k, e, f1, f2, he, hx, ht⟩
    · rw [if_pos f0]
      exact skip (Or.inl ht)
    · rw [if_neg f0, if_pos f1]
      exact skip (Or.inl ht)
    · obtain ⟨⟨b1, b2, b3⟩, -⟩ := hz.2.1 k e he
      have hi32 : (u.2.2.2 C i).toInt32 = nI e.1 := by rw [hx]; exact sb_nLi (by omega)
      rw [if_neg (by rw [f1]; decide), if_neg f2, hi32, ix2001 (by omega), ix2001 (by omega), show (nI e.1).toNatClampNeg = e.1 from nI_clamp (by omega), hM.2.2.2.1 k e he]
      by_cases cm : k ∈ ms
      · rw [if_pos cm, if_neg (show ¬ (1 : Int32) = 0 by decide)]
        exact skip (Or.inr ⟨k, cm, ht⟩)
      · rw [if_neg cm, if_pos rfl]
        have hM' := MkH_add hz hM he cm
        have hlen := MkH_len hM'
        rw [List.length_append, List.length_singleton] at hlen
        simp only [xs_let]
        have hnb : ¬ (nI i < 0 ∨ bd ≤ i) := by
          have := nI_in (N := bd) (c := i) (by omega) (by omega)
          rw [hcl] at this; exact this
        rw [if_neg hnb]
        have w31 : (xs_A u 43 e.1 (vp_nar .boolean 1)).1 31 = nI ms.length := hM.1
        have w31' : ∀ a b, (xs_A (xs_A u 43 e.1 (vp_nar .boolean 1)) 45 a b).1 31 = nI ms.length := fun _ _ => hM.1
        have wC : (xs_A u 43 e.1 (vp_nar .boolean 1)).2.2.2 C i = u.2.2.2 C i := rfl
        rw [w31, w31', ix2000 (by omega), show (nI ms.length).toNatClampNeg = ms.length from nI_clamp (by omega), wC, hi32, nI_1, nI_1, bo_01 (Or.inr rfl)]
        have hu : yf_fr [31] [] [43, 45] [] u (uM u ms.length e.1) := uM_f
        have hAe : (uM u ms.length e.1).2.2.1 A = u.2.2.1 A := hu.2.2.1 A (by simp; exact hA)
        have hCe : (uM u ms.length e.1).2.2.2 C = u.2.2.2 C := hu.2.2.2 C (by simp)
        obtain ⟨u', ms', e1, e2, e3, e4, e5⟩ := ih (i + 1) n (uM u ms.length e.1) (ms ++ [k]) (by omega) (by omega) (fun i' h1 h2 => by rw [hAe, hCe]; exact hs i' (by omega) h2) hM'
        rw [hAe, hCe] at e4 e5
        refine ⟨u', k :: ms', e1, yf_trans hu e2, ?_, fun k' hk => ?_, fun i' k' h1 h2 ht' => ?_⟩
        · rw [show ms ++ k :: ms' = (ms ++ [k]) ++ ms' by simp]; exact e3
        · rcases List.mem_cons.mp hk with q | q
          · exact ⟨i, Nat.le_refl _, hib, f1, e, by rw [q]; exact he, hx⟩
          · obtain ⟨i', a1, a2, a3⟩ := e4 k' q
            exact ⟨i', by omega, a2, a3⟩
        · rw [show ms ++ k :: ms' = (ms ++ [k]) ++ ms' by simp]
          by_cases q : i' = i
          · subst q
            rw [ht k' ht']
            simp
          · exact e5 i' k' (by omega) h2 ht'
end
