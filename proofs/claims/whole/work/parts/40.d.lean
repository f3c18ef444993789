section
variable {α β γ δ σ τ : Type} {u v w u' v' u0 v0 : xk_St} {T : List (Nat × List Nat × List Nat)} {F : List Nat} {G : List (Nat × Nat × Nat × Int64)} {n fu p q k j d b g m i : Nat} {H H' : rH} {c : Nat} {e : Nat × Nat × Nat × Nat} {ms pl : List Nat} {W : List Nat}
theorem nI_inc {k N : Nat} (hk : k < N) (hN : N ≤ 100000) : ¬ (nI k < 0 ∨ N ≤ k) := by
  have := nI_in (N := N) (c := k) hk (by omega)
  rw [show (nI k).toNatClampNeg = k from nI_clamp (by omega)] at this
  exact this
/-- what the reference has marked, and what waits -/
def MkM (H : rH) (ms pl : List Nat) (v : xk_St) : Prop := v.1 33 = nI pl.length ∧ ms.Nodup ∧ (∀ k, k ∈ ms → k < H.length) ∧ pl.Nodup ∧ (∀ k, k ∈ pl → k ∈ ms) ∧ (∀ (i : Nat) k, pl[i]? = some k → ∃ e, H[k]? = some e ∧ v.2.2.1 41 i = nI e.2.1) ∧ ∀ (k : Nat) e, H[k]? = some e → v.2.2.1 40 e.2.1 = if k ∈ ms then 1 else 0
theorem MkM_len (h : MkM H ms pl v) : ms.length ≤ H.length ∧ pl.length ≤ H.length := ⟨nd_len h.2.1 h.2.2.1, nd_len h.2.2.2.1 fun x hx => h.2.2.1 x (h.2.2.2.2.1 x hx)⟩
def vM (v : xk_St) (l : Nat) (a : Nat) : xk_St := xs_I (xs_A (xs_A v 40 a 1) 41 l (nI a)) 33 (nI (l + 1))
theorem vM_f {l a : Nat} : yf_fr [33] [] [40, 41] [] v (vM v l a) := yf_I (yf_A (yf_A yf_refl (by decide)) (by decide)) (by decide)
theorem nd_app {l : List Nat} {k : Nat} (h : l.Nodup) (hn : k ∉ l) : (l ++ [k]).Nodup := by
  rw [List.nodup_append]
  refine ⟨h, by simp, fun a ha b hb => ?_⟩
  rw [List.mem_singleton] at hb
  intro q
  exact hn (by rw [← hb, ← q]; exact ha)
theorem MkM_add (hz : RHz T H u0 v0) (h : MkM H ms pl v) (he : H[k]? = some e) (hn : k ∉ ms) : MkM H (ms ++ [k]) (pl ++ [k]) (vM v pl.length e.2.1) := by
  obtain ⟨h1, h2, h3, h4, h5, h6, h7⟩ := h
  have hl : (pl ++ [k]).length = pl.length + 1 := by rw [List.length_append, List.length_singleton]
  refine ⟨by rw [hl]; rfl, nd_app h2 hn, fun x hx => ?_, nd_app h4 (fun t => hn (h5 k t)), fun x hx => ?_, fun i k' hk => ?_, fun k' e' he' => ?_⟩
  · rcases List.mem_append.mp hx with q | q
    · exact h3 x q
    · rw [List.mem_singleton.mp q]; exact yl_lt he
  · rcases List.mem_append.mp hx with q | q
    · exact List.mem_append_left _ (h5 x q)
    · exact List.mem_append_right _ q
  · show ∃ e', H[k']? = some e' ∧ upd (v.2.2.1 41) pl.length (nI e.2.1) i = nI e'.2.1
    have hi := yl_lt hk
    by_cases q : i = pl.length
    · rw [q, List.getElem?_append_right (Nat.le_refl _), Nat.sub_self] at hk
      cases hk
      exact ⟨e, he, by rw [q, ya_t]⟩
    · rw [List.getElem?_append_left (by omega)] at hk
      obtain ⟨e', a1, a2⟩ := h6 i k' hk
      exact ⟨e', a1, by rw [ya_j q]; exact a2⟩
  · show upd (v.2.2.1 40) e.2.1 1 e'.2.1 = _
    by_cases q : e'.2.1 = e.2.1
    · have := hz.2.2.1 k' k e' e he' he (Or.inr q)
      rw [q, ya_t, if_pos (by rw [this]; simp)]
    · rw [ya_j q, h7 k' e' he']
      have hkk : ¬ k' = k := fun t => by
        subst t
        rw [he] at he'; cases he'
        exact q rfl
      by_cases c : k' ∈ ms
      · rw [if_pos c, if_pos (by simp [c])]
      · rw [if_neg c, if_neg (by simp [c, hkk])]
/-- one value is marked -/
theorem mm_mark {xh xm : Int64} {fh : Int32} (hz : RHz T H u0 v0) (hH2 : H.length ≤ 2000) (hM : MkM H ms pl v) (hr : rv T H c xh fh xm) (hc : 16 ≤ c) : ∃ v' ms', fm_Model_mark xm v = some ((), v') ∧ yf_fr [33] [] [40, 41] [] v v' ∧ MkM H (ms ++ ms') (pl ++ ms') v' ∧ (∀ k, k ∈ ms' → tg H xh fh k) ∧ ∀ k, tg H xh fh k → k ∈ ms ++ ms' := by
  have htg := fun k => tg_tm (k := k) hz hr
  have stay : (fm_Model_mark xm v = some ((), v)) → (∀ k, tg H xh fh k → k ∈ ms) → ∃ v' ms', fm_Model_mark xm v = some ((), v') ∧ yf_fr [33] [] [40, 41] [] v v' ∧ MkM H (ms ++ ms') (pl ++ ms') v' ∧ (∀ k, k ∈ ms' → tg H xh fh k) ∧ ∀ k, tg H xh fh k → k ∈ ms ++ ms' := fun h1 h2 =>
    ⟨v, [], h1, yf_refl, by rw [List.append_nil, List.append_nil]; exact hM, (fun k hk => by cases hk), fun k hk => by rw [List.append_nil]; exact h2 k hk⟩
  rcases hr with ⟨a, -⟩ | ⟨a, -⟩ | ⟨h16, h150, hr⟩
  · omega
  · omega
  rcases hr with ⟨r1, r2, -, -⟩ | ⟨-, -, n, r2, r3, r4⟩ | ⟨rf, k0, e0, r2, r3, r4, -⟩
  · refine stay ?_ fun k t => ?_
    · unfold fm_Model_mark
      rw [if_pos r2]
    · obtain ⟨-, e, he, hx⟩ := (htg k).mp t
      obtain ⟨⟨b1, b2, b3⟩, -⟩ := hz.2.1 k e he
      have := lN_inj (a := 0) (b := 2 * e.2.1 + 2) (by omega) (by omega) (r2.symm.trans hx)
      omega
  · have hx0 : ¬ xm = 0 := fun q => by
      have := lN_inj (a := 2 * n + 1) (b := 0) (by omega) (by omega) (r4.symm.trans q)
      omega
    have hodd : xm &&& 1 = 1 := by
      rw [r4, lN_odd (by omega), show (2 * n + 1) % 2 = 1 by omega]; rfl
    refine stay ?_ fun k t => ?_
    · unfold fm_Model_mark
      rw [if_neg hx0, if_pos hodd]
    · obtain ⟨-, e, he, hx⟩ := (htg k).mp t
      obtain ⟨⟨b1, b2, b3⟩, -⟩ := hz.2.1 k e he
      have := lN_inj (a := 2 * n + 1) (b := 2 * e.2.1 + 2) (by omega) (by omega) (r4.symm.trans hx)
      omega
  · obtain ⟨⟨b1, b2, b3⟩, -⟩ := hz.2.1 k0 e0 r2
    obtain ⟨i1, i2, i3, i4⟩ := rh_obj hz r2
    have heven : ¬ xm &&& 1 = 1 := by
      rw [r4, lN_odd (by omega), show (2 * e0.2.1 + 2) % 2 = 0 by omega]; decide
    have huni : ∀ k, tg H xh fh k → k = k0 := fun k t => by
      obtain ⟨-, e, he, hx⟩ := t
      obtain ⟨⟨c1, c2, c3⟩, -⟩ := hz.2.1 k e he
      have q := lN_inj (a := e0.1) (b := e.1) (by omega) (by omega) (r3.symm.trans hx)
      exact (hz.2.2.1 k0 k e0 e r2 he (Or.inl q)).symm
    have hu : fm_Model_mark xm v = if v.2.2.1 40 e0.2.1 = 0 then (if v.1 33 < 0 ∨ 2001 ≤ (v.1 33).toNatClampNeg then none else some ((), xs_I (xs_A (xs_A v 40 e0.2.1 (vp_nar .boolean 1)) 41 (v.1 33).toNatClampNeg (nI e0.2.1)) 33 (v.1 33 + 1))) else some ((), v) := by
      unfold fm_Model_mark
      rw [if_neg (by rw [r4]; exact i3), if_neg heven, if_neg (show ¬ (2 : Int64) = 0 by decide), r4, i4]
      simp only [xs_let]
      rw [ix2001 (by omega), ix2001 (by omega), show (nI e0.2.1).toNatClampNeg = e0.2.1 from nI_clamp (by omega)]; rfl
    by_cases cm : k0 ∈ ms
    · refine stay ?_ fun k t => by rw [huni k t]; exact cm
      rw [hu, hM.2.2.2.2.2.2 k0 e0 r2, if_pos cm, if_neg (by decide)]
    · have hM' := MkM_add hz hM r2 cm
      have hl := (MkM_len hM').2
      rw [List.length_append, List.length_singleton] at hl
      refine ⟨_, [k0], ?_, vM_f, hM', fun k hk => ?_, fun k t => by rw [huni k t]; simp⟩
      · rw [hu, hM.2.2.2.2.2.2 k0 e0 r2, if_neg cm, if_pos rfl, hM.1, ix2001 (by omega), show (nI pl.length).toNatClampNeg = pl.length from nI_clamp (by omega), bo_01 (Or.inr rfl), nI_1]; rfl
      · rw [List.mem_singleton.mp hk]
        exact ⟨rf, e0, r2, r3⟩
/-- the parts of one object are marked -/
theorem mm_129 {k100 : xk_St → Option (Unit × xk_St)} (hTM : yTM T v0) (hH : RHp T H u0 v0) (he : H[k]? = some e) : ∀ (j i n : Nat) (v : xk_St) (ms pl : List Nat), i + j = e.2.2.2 → j < n → yf_fr [33] [] [40, 41] [] v0 v → MkM H ms pl v → ∃ v' ms', jb_Model_collect_129 fu k100 n (nI e.2.1) (nI i) v = k100 v' ∧ yf_fr [33] [] [40, 41] [] v0 v' ∧ MkM H (ms ++ ms') (pl ++ ms') v' ∧ (∀ k', k' ∈ ms' → EH H u0 k k') ∧ ∀ i' k', i ≤ i' → i' < e.2.2.2 → tg H (u0.2.2.2 12 (hS (H.take k) + 1 + i')) (u0.2.2.1 39 (hS (H.take k) + 1 + i')) k' → k' ∈ ms ++ ms' := by
  obtain ⟨hz, ht⟩ := RHp_iff.mp hH
  obtain ⟨mm, f1, f2, -⟩ := hz.2.2.2.1
  have hH2 : H.length ≤ 2000 := by omega
  obtain ⟨⟨b1, b2, b3⟩, -, ⟨q1, q2, q3, q4⟩, -⟩ := hz.2.1 k e he
  have htop := hS_top he
  have h2000 := hz.1.2.2.1
  intro j
  induction j with
  | zero =>
    intro i n v ms pl hij hn hf hM
    obtain ⟨n, rfl⟩ : ∃ f, n = f + 1 := ⟨n - 1, by omega⟩
    refine ⟨v, [], ?_, hf, by rw [List.append_nil, List.append_nil]; exact hM, (fun k hk => by cases hk), fun i' k' h1 h2 => by omega⟩
    unfold jb_Model_collect_129
    simp only [xs_let]
    rw [ix2001 (by omega), show (nI e.2.1).toNatClampNeg = e.2.1 from nI_clamp (by omega), hf.2.2.1 38 (by decide), q2, if_pos (nI_le (by omega) (by omega))]
  | succ j ih =>
    intro i n v ms pl hij hn hf hM
    obtain ⟨n, rfl⟩ : ∃ f, n = f + 1 := ⟨n - 1, by omega⟩
    obtain ⟨c, d, hc, hd, hd150, hd0, hd7, ht64, hi16⟩ := rh_dt hTM hz he (show i < e.2.2.2 by omega)
    have hrv := ht k e c i d he hc trivial (by omega) hd
    have hpart : fm_Model_partOf (nI e.2.2.1) (nI i) v = some (nI d, v) := by
      unfold fm_Model_partOf
      have e4 : v.2.2.1 4 = v0.2.2.1 4 := hf.2.2.1 4 (by decide)
      have e7 : v.2.2.1 7 = v0.2.2.1 7 := hf.2.2.1 7 (by decide)
      have h4 : v0.2.2.1 4 e.2.2.1 = nI (96 - c.1) := (hTM.2.2.1 _ c (yl_lt hc) hc).1.1
      have hk3 : c.1 = 96 ∨ c.1 = 95 ∨ c.1 = 94 := (yTM_g hTM _ _ hc).1
      rw [if_neg (nI_in (N := 64) (by omega) (by decide)), show (nI e.2.2.1).toNatClampNeg = e.2.2.1 from nI_clamp (by omega), e4, h4, e7, show ((32 : Int32) * nI e.2.2.1 + 0) = nI (32 * e.2.2.1 + 0) from nI_32 (i := 0), nI_32]
      by_cases q : c.1 = 94
      · rw [if_pos q] at hd7
        rw [if_pos (show nI (96 - c.1) = 2 by rw [q]; rfl), if_neg (nI_in (N := 2048) (by omega) (by decide)), show (nI (32 * e.2.2.1 + 0)).toNatClampNeg = 32 * e.2.2.1 + 0 from nI_clamp (by omega), hd7]
      · have := hi16 q
        rw [if_neg q] at hd7
        rw [if_neg (show ¬ nI (96 - c.1) = (2 : Int32) from fun t => by have := (nI_eq (b := 2) (by omega) (by decide)).mp t; omega), if_neg (nI_in (N := 2048) (by omega) (by decide)), show (nI (32 * e.2.2.1 + i)).toNatClampNeg = 32 * e.2.2.1 + i from nI_clamp (by omega), hd7]
    have head : jb_Model_collect_129 fu k100 (n + 1) (nI e.2.1) (nI i) v = if d < 16 then jb_Model_collect_129 fu k100 n (nI e.2.1) (nI (i + 1)) v else xs_seq (fm_Model_mark (v0.2.2.2 5 (hS (H.take k) + 1 + i)) v) fun _ v1 => jb_Model_collect_129 fu k100 n (nI e.2.1) (nI (i + 1)) v1 := by
      conv => lhs; unfold jb_Model_collect_129
      simp only [xs_let]
      unfold jb_Model_collect_173
      simp only [xs_let]
      rw [ix2001 (by omega), ix2001 (by omega), show (nI e.2.1).toNatClampNeg = e.2.1 from nI_clamp (by omega), hf.2.2.1 38 (by decide), q2, if_neg (fun t => by have := (nI_leI (by omega) (by omega)).mp t; omega), hf.2.2.1 39 (by decide), q3, hpart, ys_seq, mm_isRef hd150, ys_seq, nI_1]
      by_cases q : d < 16
      · rw [if_pos q, if_pos q, if_pos rfl]
      · rw [if_neg q, if_neg q, if_neg (by decide), if_neg (nI_inc (by omega) (by decide)), hf.2.2.1 37 (by decide), q1, nI_add, ix2001 (by omega), show (nI (hS (H.take k) + 1 + i)).toNatClampNeg = hS (H.take k) + 1 + i from nI_clamp (by omega), hf.2.2.2 5 (by simp)]
    by_cases q : d < 16
    · -- no reference
      have hno : ∀ k', ¬ tg H (u0.2.2.2 12 (hS (H.take k) + 1 + i)) (u0.2.2.1 39 (hS (H.take k) + 1 + i)) k' := fun k' t => by
        have h16 := ((tg_tm hz hrv).mp t).1
        unfold upk at h16
        by_cases q2 : d = 3 ∨ d = 4
        · rw [if_pos q2] at h16; omega
        · rw [if_neg q2] at h16; omega
      obtain ⟨v', ms', r1, r2, r3, r4, r5⟩ := ih (i + 1) n v ms pl (by omega) (by omega) hf hM
      refine ⟨v', ms', by rw [head, if_pos q]; exact r1, r2, r3, r4, fun i' k' h1 h2 t => ?_⟩
      by_cases qi : i' = i
      · rw [qi] at t; exact absurd t (hno k')
      · exact r5 i' k' (by omega) h2 t
    · have e16 : 16 ≤ upk d := by unfold upk; rw [if_neg (by omega)]; omega
      obtain ⟨v1, ms1, a1, a2, a3, a4, a5⟩ := mm_mark hz hH2 hM hrv e16
      obtain ⟨v', ms', r1, r2, r3, r4, r5⟩ := ih (i + 1) n v1 (ms ++ ms1) (pl ++ ms1) (by omega) (by omega) (yf_trans hf a2) a3
      refine ⟨v', ms1 ++ ms', by rw [head, if_neg q, a1, ys_seq]; exact r1, r2, by rw [← List.append_assoc, ← List.append_assoc]; exact r3, fun k' hk => ?_, fun i' k' h1 h2 t => ?_⟩
      · rcases List.mem_append.mp hk with q | q
        · exact ⟨e, i, he, by omega, a4 k' q⟩
        · exact r4 k' q
      · rw [← List.append_assoc]
        by_cases qi : i' = i
        · rw [qi] at t; exact List.mem_append_left _ (a5 k' t)
        · exact r5 i' k' (by omega) h2 t
end
