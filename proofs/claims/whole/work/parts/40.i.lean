section
variable {α β γ δ σ τ : Type} {u v w u' v' u0 v0 u1 v1 : xk_St} {T : List (Nat × List Nat × List Nat)} {F : List Nat} {G : List (Nat × Nat × Nat × Int64)} {n fu p q k j d b g m i t : Nat} {H H' : rH} {c : Nat} {e : Nat × Nat × Nat × Nat} {ms pl : List Nat} {W : List Nat}
theorem rv_keep {xh xm : Int64} {fh : Int32} (h : rv T H c xh fh xm) (hk : ∀ k, tg H xh fh k → k ∈ ms) : rv T (hK ms H H.length) c xh fh xm := by
  rcases h with h | h | ⟨h16, h150, hr⟩
  · exact Or.inl h
  · exact Or.inr (Or.inl h)
  · refine Or.inr (Or.inr ⟨h16, h150, ?_⟩)
    rcases hr with r | r | ⟨rf, k0, e0, r2, r3, r4, r5⟩
    · exact Or.inl r
    · exact Or.inr (Or.inl r)
    · obtain ⟨j, hj⟩ := hK_in (yl_lt r2) (hk k0 ⟨rf, e0, r2, r3⟩) r2
      exact Or.inr (Or.inr ⟨rf, j, e0, hj, r3, r4, r5⟩)
theorem hS_inj {j' : Nat} {e' : Nat × Nat × Nat × Nat} (h : H[j]? = some e) (h' : H[j']? = some e') (hs : hS (H.take j) = hS (H.take j')) : j = j' := by
  by_cases q : j = j'
  · exact q
  · have := hS_apart h h' q
    omega
/-- the heaps behind a collection -/
theorem rc_heap {ue ve : xk_St} (hz : RHz T H u0 v0) (ht : RHt T H (fun _ _ => True) u0 v0) (hf : yf_fr [31] [] [43, 45] [] u0 u1) (hg : yf_fr [33] [] [40, 41] [] v0 v1) (hC : CIh T H ms H.length u1 ue) (hM : CIm T H ms H.length v1 ve) (hcl : ∀ k k', k ∈ ms → EH H u0 k k' → k' ∈ ms) : RHp T (hK ms H H.length) (xs_I ue 32 (nI (hS (hK ms H H.length)))) (xs_I (xs_I ve 34 (nI (hK ms H H.length).length)) 32 (nI (hS (hK ms H H.length)))) := by
  obtain ⟨l1, l2⟩ := hK_le (ms := ms) (H := H) (t := H.length) (Nat.le_refl _)
  rw [List.take_of_length_le (Nat.le_refl _)] at l1
  have h2000 := hz.1.2.2.1
  obtain ⟨fc, fa, fb, fcc, ⟨m, m1, m2, q, q1, q2⟩, fe⟩ := hC
  obtain ⟨gc, ga, gb, gcc, gd⟩ := hM
  have huni : ∀ (k k' : Nat) e, H[k]? = some e → H[k']? = some e → k = k' := fun k k' e h1 h2 => hz.2.2.1 k k' e e h1 h2 (Or.inl rfl)
  refine RHp_iff.mpr ⟨⟨⟨rfl, rfl, by omega, rfl⟩, fun j e hj => ?_, fun j j' e e' hj hj' hee => ?_, ⟨m, m1, by omega, q, fun i hi => ?_, q2⟩, fun i hi => ?_, fun i hi => ?_⟩, fun j e c i d hj hc _ hi hd => ?_⟩
  · obtain ⟨k, k1, k2, k3⟩ := hK_mem hj
    obtain ⟨b1, ⟨o1, o2, o3, o4, o5⟩, ⟨p1, p2, p3, p4⟩, hc⟩ := hz.2.1 k e k3
    obtain ⟨a1, kk, a2, a3⟩ := fa j e hj
    have hkk := huni kk k e a2 k3
    subst hkk
    obtain ⟨a4, a5⟩ := a3 0 (Nat.zero_le _)
    rw [Nat.add_zero, Nat.add_zero] at a4 a5
    obtain ⟨c1, c2, c3, -⟩ := ga j e hj
    refine ⟨b1, ⟨?_, ?_, a1, ?_, ?_⟩, ⟨c1, ?_, ?_, c2⟩, hc⟩
    · show ue.2.2.1 40 e.1 = _
      rw [fc.2.2.1 40 (by decide), hf.2.2.1 40 (by decide)]; exact o1
    · show ue.2.2.1 41 e.1 = _
      rw [fc.2.2.1 41 (by decide), hf.2.2.1 41 (by decide)]; exact o2
    · show ue.2.2.2 12 _ = _
      rw [a4, hf.2.2.2 12 (by simp)]; exact o4
    · show ue.2.2.1 39 _ = _
      rw [a5, hf.2.2.1 39 (by decide)]; exact o5
    · show ve.2.2.1 38 e.2.1 = _
      rw [c3, hg.2.2.1 38 (by decide)]; exact p2
    · show ve.2.2.1 39 e.2.1 = _
      rw [gc.2.2.1 39 (by decide), hg.2.2.1 39 (by decide)]; exact p3
  · obtain ⟨k, k1, k2, k3⟩ := hK_mem hj
    obtain ⟨k', k1', k2', k3'⟩ := hK_mem hj'
    have hkk := hz.2.2.1 k k' e e' k3 k3' hee
    subst hkk
    rw [k3] at k3'; cases k3'
    obtain ⟨a1, -⟩ := fa j e hj
    obtain ⟨a1', -⟩ := fa j' e hj'
    have t1 := hS_top hj
    have t2 := hS_top hj'
    exact hS_inj hj hj' ((nI_eq (by omega) (by omega)).mp (a1.symm.trans a1'))
  · obtain ⟨a1, a2, a3, a4⟩ := q1 i hi
    refine ⟨a1, a2, a3, fun j e hj => ?_⟩
    obtain ⟨k, k1, k2, k3⟩ := hK_mem hj
    exact a4 k e k3 (Or.inr k2)
  · rcases gd i hi with ⟨k, e, k1, k2, k3⟩ | q
    · have hk := yl_lt k2
      have hkm : k ∈ ms := by
        rcases k1 with k1 | k1
        · omega
        · exact k1
      obtain ⟨j, hj⟩ := hK_in hk hkm k2
      exact Or.inl ⟨j, e, hj, k3⟩
    · exact Or.inr q
  · show ue.2.2.1 43 i = 0
    rcases fe i hi with q | ⟨k, e, k1, k2, -⟩
    · exact q
    · have := yl_lt k2
      omega
  · obtain ⟨k, k1, k2, k3⟩ := hK_mem hj
    obtain ⟨-, kk, a2, a3⟩ := fa j e hj
    have hkk := huni kk k e a2 k3
    subst hkk
    obtain ⟨a4, a5⟩ := a3 (1 + i) (by omega)
    obtain ⟨-, -, -, kk', b2, b3⟩ := ga j e hj
    have hkk := huni kk' kk e b2 a2
    subst hkk
    have b4 := b3 i hi
    rw [← Nat.add_assoc, ← Nat.add_assoc] at a4 a5
    show rv T (hK ms H H.length) (upk d) (ue.2.2.2 12 (hS ((hK ms H H.length).take j) + 1 + i)) (ue.2.2.1 39 (hS ((hK ms H H.length).take j) + 1 + i)) (ve.2.2.2 5 (hS ((hK ms H H.length).take j) + 1 + i))
    rw [a4, a5, b4, hf.2.2.2 12 (by simp), hf.2.2.1 39 (by decide), hg.2.2.2 5 (by simp)]
    exact rv_keep (ht kk' e c i d a2 hc trivial hi hd) fun k2' t => hcl kk' k2' k2 ⟨e, i, a2, hi, t⟩
/-- a collection, by both -/
theorem rc_both (hfu : 18000 < fu) (hTM : yTM T v) (hRS : RS T H W u v) (hH : RHp T H u v) (hRG : RG T H G u v) (hG : G.length ≤ 64) (h14 : ∀ (k : Nat) a, G[k]? = some a → v.2.2.1 14 k = nI a.1 ∧ a.1 < 150) (h18 : v.1 18 = nI G.length) : ∃ u' v' H', fm_Heap_collect fu u = some (nI (hS H'), u') ∧ fm_Model_collect fu v = some ((), v') ∧ yf_fr [30, 31, 32] [] [39, 42, 43, 44, 45] [12] u u' ∧ yf_fr [32, 33, 34] [] [37, 38, 40, 41, 42] [5] v v' ∧ RHp T H' u' v' ∧ RS T H' W u' v' ∧ RG T H' G u' v' := by
  obtain ⟨hz, ht⟩ := RHp_iff.mp hH
  obtain ⟨mm, f1, f2, -⟩ := hz.2.2.2.1
  have hH2 : H.length ≤ 2000 := by omega
  obtain ⟨u1, ms, a1, a2, a3, a4⟩ := hc_mark hfu hTM hRS hH hRG hG
  obtain ⟨v1, ms2, b1, b2, b3, b4⟩ := mm_all hfu hTM hRS hH hRG hG h14 h18
  have hCI0 := CIh_0 (T := T) hz (a2.1 30 (by decide)) (a2.2.2.1 44 (by decide)) a3
  have h39 : ∀ (k : Nat) e i, H[k]? = some e → i < e.2.2.2 → u.2.2.1 39 (hS (H.take k) + 1 + i) = 0 ∨ u.2.2.1 39 (hS (H.take k) + 1 + i) = 1 := fun k e i he hi => by
    obtain ⟨c, xm, hr⟩ := rh_pt hTM hH he hi
    exact rv_f hr
  obtain ⟨ue, c1, c2⟩ := hc_move (fu := fu) hz a2 h39 a3 H.length 0 fu u1 (by omega) (by omega) hCI0
  have h40 : ∀ (k : Nat) e, H[k]? = some e → v1.2.2.1 40 e.2.1 = if k ∈ ms then 1 else 0 := fun k e he => by
    rw [b3.2.2.2.2.2.2 k e he]
    by_cases q : k ∈ ms
    · rw [if_pos q, if_pos ((b4 k).mpr ((a4 k).mp q))]
    · rw [if_neg q, if_neg (fun t => q ((a4 k).mpr ((b4 k).mp t)))]
  obtain ⟨ve, d1, d2⟩ := mm_move (fu := fu) (ms := ms) (by omega) hz b2 h40 hH2 H.length 0 fu v1 (by omega) (by omega) (CIm_0 hz (b2.2.2.1 38 (by decide)))
  have hcl : ∀ k k', k ∈ ms → EH H u k k' → k' ∈ ms := fun k k' hk hE => (a4 k').mpr (Rc_E ((a4 k).mp hk) hE)
  have hU : yf_fr [30, 31, 32] [] [39, 42, 43, 44, 45] [12] u (xs_I ue 32 (nI (hS (hK ms H H.length)))) := yf_I (yf_trans (yf_mono a2 (by decide)) (yf_mono c2.1 (by decide))) (by decide)
  have hV : yf_fr [32, 33, 34] [] [37, 38, 40, 41, 42] [5] v (xs_I (xs_I ve 34 (nI (hK ms H H.length).length)) 32 (nI (hS (hK ms H H.length)))) := yf_I (yf_I (yf_trans (yf_mono b2 (by decide)) (yf_mono d2.1 (by decide))) (by decide)) (by decide)
  refine ⟨_, _, hK ms H H.length, ?_, ?_, hU, hV, rc_heap hz ht a2 b2 c2 d2 hcl, ?_, ?_⟩
  · rw [a1]
    unfold jb_Heap_collect_84 fm_Heap_moveTogether
    have c1' : jb_Heap_moveTogether_4 fu fu 0 0 u1 = _ := c1
    rw [c1', ys_seq]; rfl
  · rw [b1]
    exact d1
  · refine ⟨by rw [hU.1 28 (by decide)]; exact hRS.1, by rw [hV.1 26 (by decide)]; exact hRS.2.1, hRS.2.2.1, fun i c hc => ?_⟩
    rw [hU.2.2.2 10 (by decide), hU.2.2.1 37 (by decide), hV.2.2.2 3 (by decide), hV.2.2.1 29 (by decide)]
    obtain ⟨r1, r2⟩ := hRS.2.2.2 i c hc
    exact ⟨rv_keep r1 fun k t => (a4 k).mpr (Rc_S (Or.inl ⟨i, yl_lt hc, t⟩)), r2⟩
  · refine ⟨by rw [hU.1 29 (by decide)]; exact hRG.1, fun i a ha => ?_⟩
    rw [hU.2.2.2 11 (by decide), hU.2.2.1 38 (by decide), hV.2.2.2 2 (by decide)]
    exact rv_keep (hRG.2 i a ha) fun k t => (a4 k).mpr (Rc_S (Or.inr ⟨i, yl_lt ha, t⟩))
end
