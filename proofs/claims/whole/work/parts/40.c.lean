section
variable {α β γ δ σ τ : Type} {u v w u' v' u0 v0 : xk_St} {T : List (Nat × List Nat × List Nat)} {F : List Nat} {G : List (Nat × Nat × Nat × Int64)} {n fu p q k j d b g m i : Nat} {H H' : rH} {c : Nat} {e : Nat × Nat × Nat × Nat} {ms : List Nat} {W : List Nat}
/-- one object has a part that names another -/
def EH (H : rH) (u : xk_St) (k k' : Nat) : Prop := ∃ e i, H[k]? = some e ∧ i < e.2.2.2 ∧ tg H (u.2.2.2 12 (hS (H.take k) + 1 + i)) (u.2.2.1 39 (hS (H.take k) + 1 + i)) k'
/-- the stack or a global names it -/
def SH (H : rH) (nW nG : Nat) (u : xk_St) (k : Nat) : Prop := (∃ i, i < nW ∧ tg H (u.2.2.2 10 i) (u.2.2.1 37 i) k) ∨ ∃ i, i < nG ∧ tg H (u.2.2.2 11 i) (u.2.2.1 38 i) k
/-- every part of an object has its type -/
theorem rh_dt (hTM : yTM T v) (hz : RHz T H u v) (he : H[k]? = some e) (hi : i < e.2.2.2) : ∃ c d, T[e.2.2.1]? = some c ∧ pT c i = some d ∧ d < 150 ∧ 0 < d ∧ v.2.2.1 7 (32 * e.2.2.1 + (if c.1 = 94 then 0 else i)) = nI d ∧ e.2.2.1 < 64 ∧ (¬ c.1 = 94 → i < 16) := by
  obtain ⟨-, -, -, c, hc, h2⟩ := hz.2.1 k e he
  have g := yTM_g hTM _ _ hc
  have hT := hTM.2.1.1
  have hml := yl_lt hc
  rcases h2 with q | ⟨q1, q2⟩
  · have hl := g.2.2.2.2 q
    have hd : c.2.1[0]? = some c.2.1[0] := List.getElem?_eq_getElem (by omega)
    refine ⟨c, _, hc, by unfold pT; rw [if_pos q]; exact hd, ?_, ?_, ?_, by omega, fun t => absurd q t⟩
    · have := (g.2.1 0 _ hd).2.1; omega
    · exact (g.2.1 0 _ hd).1
    · rw [if_pos q]; exact (yTM_p hTM hc hd).1
  · have hd : c.2.1[i]? = some (c.2.1[i]'(by omega)) := List.getElem?_eq_getElem (by omega)
    have q94 : ¬ c.1 = 94 := by omega
    refine ⟨c, _, hc, by unfold pT; rw [if_neg q94]; exact hd, ?_, ?_, ?_, by omega, fun _ => (yTM_p hTM hc hd).2.1⟩
    · have := (g.2.1 i _ hd).2.1; omega
    · exact (g.2.1 i _ hd).1
    · rw [if_neg q94]; exact (yTM_p hTM hc hd).1
theorem rh_pt (hTM : yTM T v) (hH : RHp T H u v) (he : H[k]? = some e) (hi : i < e.2.2.2) : ∃ c xm, rv T H c (u.2.2.2 12 (hS (H.take k) + 1 + i)) (u.2.2.1 39 (hS (H.take k) + 1 + i)) xm := by
  obtain ⟨hz, ht⟩ := RHp_iff.mp hH
  obtain ⟨c, d, h1, h2, -⟩ := rh_dt hTM hz he hi
  exact ⟨_, _, ht k e c i d he h1 trivial hi h2⟩
/-- the class finds all that can be come to -/
theorem hc_bfs {S : Nat → Prop} (hz : RHz T H u0 v0) (hpt : ∀ (k : Nat) e i, H[k]? = some e → i < e.2.2.2 → ∃ c xm, rv T H c (u0.2.2.2 12 (hS (H.take k) + 1 + i)) (u0.2.2.1 39 (hS (H.take k) + 1 + i)) xm) (hfu : 2100 < fu) : ∀ (j b3 n : Nat) (u : xk_St) (ms : List Nat), H.length - b3 = j → j < n → b3 ≤ ms.length → yf_fr [31] [] [43, 45] [] u0 u → MkH H ms u → (∀ i k, i < b3 → ms[i]? = some k → ∀ k', EH H u0 k k' → k' ∈ ms) → (∀ k, k ∈ ms → Rc S (EH H u0) k) → ∃ u' ms', jb_Heap_collect_27 fu n (nI b3) u = jb_Heap_collect_84 fu u' ∧ yf_fr [31] [] [43, 45] [] u0 u' ∧ MkH H (ms ++ ms') u' ∧ (∀ k, k ∈ ms ++ ms' → Rc S (EH H u0) k) ∧ ∀ k k', k ∈ ms ++ ms' → EH H u0 k k' → k' ∈ ms ++ ms' := by
  obtain ⟨mm, f1, f2, -⟩ := hz.2.2.2.1
  have hH2 : H.length ≤ 2000 := by omega
  intro j
  induction j with
  | zero =>
    intro b3 n u ms hj hn hb hf hM hp hR
    obtain ⟨n, rfl⟩ : ∃ f, n = f + 1 := ⟨n - 1, by omega⟩
    have hl := MkH_len hM
    refine ⟨u, [], ?_, hf, by rw [List.append_nil]; exact hM, by rw [List.append_nil]; exact hR, fun k k' hk hE => ?_⟩
    · unfold jb_Heap_collect_27
      simp only [xs_let]
      rw [hM.1, if_pos (nI_le (by omega) (by omega))]
    · rw [List.append_nil] at hk ⊢
      obtain ⟨i, hi⟩ := List.getElem?_of_mem hk
      have := yl_lt hi
      exact hp i k (by omega) hi k' hE
  | succ j ih =>
    intro b3 n u ms hj hn hb hf hM hp hR
    obtain ⟨n, rfl⟩ : ∃ f, n = f + 1 := ⟨n - 1, by omega⟩
    have hl := MkH_len hM
    by_cases c : ms.length ≤ b3
    · refine ⟨u, [], ?_, hf, by rw [List.append_nil]; exact hM, by rw [List.append_nil]; exact hR, fun k k' hk hE => ?_⟩
      · unfold jb_Heap_collect_27
        simp only [xs_let]
        rw [hM.1, if_pos (nI_le (by omega) (by omega))]
      · rw [List.append_nil] at hk ⊢
        obtain ⟨i, hi⟩ := List.getElem?_of_mem hk
        have := yl_lt hi
        exact hp i k (by omega) hi k' hE
    · obtain ⟨k, hk⟩ : ∃ k, ms[b3]? = some k := ⟨_, List.getElem?_eq_getElem (by omega)⟩
      obtain ⟨e, he, h45⟩ := hM.2.2.1 b3 k hk
      obtain ⟨⟨b1, b2, b3'⟩, ⟨o1, o2, o3, o4, o5⟩, -⟩ := hz.2.1 k e he
      have htop := hS_top he
      have h2000 := hz.1.2.2.1
      have u41 : u.2.2.1 41 e.1 = nI e.2.2.2 := by rw [hf.2.2.1 41 (by decide)]; exact o2
      have u42 : u.2.2.1 42 e.1 = nI (hS (H.take k)) := by rw [hf.2.2.1 42 (by decide)]; exact o3
      have hcell : ∀ x, fm_Heap_cellOf (nI e.1) (nI x) u = some (nI (hS (H.take k) + 1 + x), u) := fun x => by
        unfold fm_Heap_cellOf
        rw [ix2001 (by omega), show (nI e.1).toNatClampNeg = e.1 from nI_clamp (by omega), u42, nI_1, nI_add]
      have hcell0 : fm_Heap_cellOf (nI e.1) 0 u = some (nI (hS (H.take k) + 1), u) := hcell 0
      have e39 : u.2.2.1 39 = u0.2.2.1 39 := hf.2.2.1 39 (by decide)
      have e12 : u.2.2.2 12 = u0.2.2.2 12 := hf.2.2.2 12 (by simp)
      obtain ⟨u1, ms1, a1, a2, a3, a4, a5⟩ := hf_all (A := 39) (C := 12) (bd := 2000) (b := hS (H.take k) + 1 + e.2.2.2) hz hH2 (by omega) (by decide) (by decide) e.2.2.2 (hS (H.take k) + 1) fu u ms (by omega) (by omega) (fun i' h1 h2 => by
        have := hpt k e (i' - (hS (H.take k) + 1)) he (by omega)
        rw [show hS (H.take k) + 1 + (i' - (hS (H.take k) + 1)) = i' by omega] at this
        rw [e39, e12]; exact this) hM
      rw [e39, e12] at a4 a5
      have hin : k ∈ ms := List.mem_of_getElem? hk
      have hR1 : ∀ k', k' ∈ ms ++ ms1 → Rc S (EH H u0) k' := fun k' hk' => by
        rcases List.mem_append.mp hk' with q | q
        · exact hR k' q
        · obtain ⟨i', h1, h2, h3⟩ := a4 k' q
          refine Rc_E (hR k hin) ⟨e, i' - (hS (H.take k) + 1), he, by omega, ?_⟩
          rw [show hS (H.take k) + 1 + (i' - (hS (H.take k) + 1)) = i' by omega]; exact h3
      have hp1 : ∀ i k', i < b3 + 1 → (ms ++ ms1)[i]? = some k' → ∀ k2, EH H u0 k' k2 → k2 ∈ ms ++ ms1 := fun i k' hi hk' k2 hE => by
        rw [List.getElem?_append_left (by omega)] at hk'
        by_cases q : i = b3
        · rw [q, hk] at hk'; cases hk'
          obtain ⟨e', i', g1, g2, g3⟩ := hE
          rw [he] at g1; cases g1
          exact a5 _ k2 (by omega) (by omega) g3
        · exact List.mem_append_left _ (hp i k' (by omega) hk' k2 hE)
      obtain ⟨u', ms', r1, r2, r3, r4, r5⟩ := ih (b3 + 1) n u1 (ms ++ ms1) (by omega) (by omega) (by rw [List.length_append]; omega) (yf_trans hf a2) a3 hp1 hR1
      refine ⟨u', ms1 ++ ms', ?_, r2, by rw [← List.append_assoc]; exact r3, by rw [← List.append_assoc]; exact r4, by rw [← List.append_assoc]; exact r5⟩
      unfold jb_Heap_collect_27
      simp only [xs_let]
      rw [hM.1, if_neg (fun t => by have := (nI_leI (by omega) (by omega)).mp t; omega), if_neg (show ¬ (2000 : Int32) ≤ nI b3 from fun t => by have := (nI_leI (a := 2000) (by omega) (by omega)).mp t; omega), ix2000 (by omega), show (nI b3).toNatClampNeg = b3 from nI_clamp (by omega), h45, hcell0, ys_seq, ix2001 (by omega), show (nI e.1).toNatClampNeg = e.1 from nI_clamp (by omega), u41, hcell, ys_seq]
      unfold fm_Heap_find__h67_68
      rw [hf_3, a1, ys_seq, nI_1]
      exact r1
/-- all the marking of the class -/
theorem hc_mark (hfu : 18000 < fu) (hTM : yTM T v) (hRS : RS T H W u v) (hH : RHp T H u v) (hRG : RG T H G u v) (hG : G.length ≤ 64) : ∃ u' ms, fm_Heap_collect fu u = jb_Heap_collect_84 fu u' ∧ yf_fr [31] [] [43, 45] [] u u' ∧ MkH H ms u' ∧ ∀ k, k ∈ ms ↔ Rc (SH H W.length G.length u) (EH H u) k := by
  obtain ⟨hz, ht⟩ := RHp_iff.mp hH
  obtain ⟨mm, f1, f2, -⟩ := hz.2.2.2.1
  have hH2 : H.length ≤ 2000 := by omega
  have hW := hRS.2.2.1
  have hM0 : MkH H [] (xs_I u 31 0) := by
    refine ⟨rfl, List.nodup_nil, (fun i k hk => by cases hk), fun k e he => ?_, fun i hi => Or.inl (hz.2.2.2.2.2 i hi)⟩
    obtain ⟨⟨b1, b2, b3⟩, -⟩ := hz.2.1 k e he
    rw [if_neg (by simp)]
    exact hz.2.2.2.2.2 e.1 (by omega)
  have hu0 : yf_fr [31] [] [43, 45] [] u (xs_I u 31 0) := yf_I yf_refl (by decide)
  obtain ⟨u1, ms1, a1, a2, a3, a4, a5⟩ := hf_all (A := 37) (C := 10) (bd := 18000) (b := W.length) hz hH2 hW (by decide) (by decide) W.length 0 fu (xs_I u 31 0) [] (by omega) (by omega) (fun i' h1 h2 => by
    have := hRS.2.2.2 i' W[i'] (List.getElem?_eq_getElem h2)
    exact ⟨_, _, this.1⟩) hM0
  rw [List.nil_append] at a3 a5
  have f1' : yf_fr [31] [] [43, 45] [] u u1 := yf_trans hu0 a2
  have e38 : u1.2.2.1 38 = u.2.2.1 38 := f1'.2.2.1 38 (by decide)
  have e11 : u1.2.2.2 11 = u.2.2.2 11 := f1'.2.2.2 11 (by simp)
  obtain ⟨u2, ms2, b1, b2, b3, b4, b5⟩ := hf_all (A := 38) (C := 11) (bd := 64) (b := G.length) hz hH2 hG (by decide) (by decide) G.length 0 fu u1 ms1 (by omega) (by omega) (fun i' h1 h2 => by
    have := hRG.2 i' G[i'] (List.getElem?_eq_getElem h2)
    rw [e38, e11]
    exact ⟨_, _, this⟩) a3
  rw [e38, e11] at b4 b5
  have f2' : yf_fr [31] [] [43, 45] [] u u2 := yf_trans f1' b2
  have hR2 : ∀ k, k ∈ ms1 ++ ms2 → Rc (SH H W.length G.length u) (EH H u) k := fun k hk => by
    rcases List.mem_append.mp hk with q | q
    · obtain ⟨i', h1, h2, h3⟩ := a4 k q
      exact Rc_S (Or.inl ⟨i', h2, h3⟩)
    · obtain ⟨i', h1, h2, h3⟩ := b4 k q
      exact Rc_S (Or.inr ⟨i', h2, h3⟩)
  obtain ⟨u3, ms3, c1, c2, c3, c4, c5⟩ := hc_bfs (fu := fu) (S := SH H W.length G.length u) hz (fun k e i he hi => rh_pt hTM hH he hi) (by omega) H.length 0 fu u2 (ms1 ++ ms2) (by omega) (by omega) (by omega) f2' b3 (fun i k hi => by omega) hR2
  refine ⟨u3, _, ?_, c2, c3, fun k => ⟨c4 k, fun hr => hr (fun k => k ∈ ms1 ++ ms2 ++ ms3) (fun k hS => ?_) c5⟩⟩
  · unfold fm_Heap_collect fm_Heap_find fm_Heap_find__h67_64
    simp only [xs_let]
    have w28 : (xs_I u 31 0).1 28 = nI W.length := hRS.1
    have w29 : u1.1 29 = nI G.length := by rw [f1'.1 29 (by decide)]; exact hRG.1
    have a1' : hfind 18000 37 10 fu (nI W.length) 0 (xs_I u 31 0) = some ((), u1) := a1
    have b1' : hfind 64 38 11 fu (nI G.length) 0 u1 = some ((), u2) := b1
    rw [w28, hf_1, a1', ys_seq, hf_2, w29, b1', ys_seq]
    exact c1
  · refine List.mem_append_left _ ?_
    rcases hS with ⟨i, h1, h2⟩ | ⟨i, h1, h2⟩
    · exact List.mem_append_left _ (a5 i k (by omega) h1 h2)
    · exact b5 i k (by omega) h1 h2
end
