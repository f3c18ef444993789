section
variable {α β γ δ σ τ : Type} {B : Nat → Int32} {u v w z u0 u1 : xk_St} {lim p q : Nat} {T : List (Nat × List Nat × List Nat)} {F : List Nat} {G : List (Nat × Nat × Nat × Int64)} {L : List Nat} {n fu tc mc : Nat} {Q Q' Q1 : List sFr} {h : Nat → Nat}
/-- one instruction, by the class -/
theorem hi_step {k pp : Nat} {i : sIn} {ol : List (Nat × Option Nat)} (hfu : 8400 ≤ fu) (he : yCe T u) (hEn : sEn T F tc mc G u) (hLo : sLo T L u) (hH : sH T Q u) (hQ : ¬ Q = []) (hk : k < 8192) (hi : yg_ins i) (hent : yk_ent u ol k i) (hne : ∀ f, f ∈ Q → ¬ f.1.1 = k)
    (hm5 : i.1 = 5 → ∀ f r, Q = f :: r → f.2.1 = 4) (hm : i.1 = 11 → ∀ f r, Q = f :: r → f.2.1 = 4 ∨ f.2.1 = 5 → ∃ m, u.2.2.1 9 f.1.1 = nI m ∧ m < 8192 ∧ u.2.2.1 7 m = nI (if f.2.1 = 4 then 11 else 5)) :
    HC (fm_Checker_checkInstruction fu (nI k) u) (sq_step T F tc mc G L k pp i Q) (sPJ T i k Q u) := by
  by_cases z : i.1 < 16
  · exact hi_control hfu he hH hQ hk hi hent hne z hm5 hm
  · by_cases z2 : i.1 < 40
    · exact hi_simple hfu he hEn hLo hH hQ hk hi hent (by omega) z2
    · exact hi_others hfu he hEn hH hQ hk hi hent (by omega)
theorem sOl_mem {ol : List (Nat × Option Nat)} : ∀ {Q : List sFr}, sOl u ol Q → ∀ f, f ∈ Q → ∃ y, y ∈ ol ∧ y.1 = f.1.1 := by
  induction ol with
  | nil =>
    intro Q hh f hf
    cases Q with
    | nil => cases hf
    | cons f q => exact absurd hh id
  | cons x r ih =>
    intro Q hh f hf
    cases Q with
    | nil => cases hf
    | cons g q =>
      obtain ⟨h1, h2, h3, h4, h5, h6⟩ := hh
      rcases List.mem_cons.mp hf with rfl | hf
      · exact ⟨x, List.mem_cons_self, h1⟩
      · obtain ⟨y, y1, y2⟩ := ih h6 f hf
        exact ⟨y, List.mem_cons_of_mem _ y1, y2⟩
theorem sOl_len {ol : List (Nat × Option Nat)} : ∀ {Q : List sFr}, sOl u ol Q → ol.length = Q.length := by
  induction ol with
  | nil =>
    intro Q hh
    cases Q with
    | nil => rfl
    | cons f q => exact absurd hh id
  | cons x r ih =>
    intro Q hh
    cases Q with
    | nil => exact absurd hh id
    | cons g q =>
      obtain ⟨h1, h2, h3, h4, h5, h6⟩ := hh
      rw [List.length_cons, List.length_cons, ih h6]
/-- the instructions of a body, by the class -/
theorem hc_run {k0 m : Nat} {b1 : Int32} (hfu : 8400 ≤ fu) (hw : sWh h u0) (he : yCe T u0) (hEn : sEn T F tc mc G u0) (hLo : sLo T L u0) (hm : u0.1 8 = nI m) (hm2 : m ≤ 8192) : ∀ (l : List (Nat × sIn)) (k : Nat) (ol : List (Nat × Option Nat)) (Q : List sFr) (v : xk_St) (n d p q : Nat), sG h k0 k u0 v → sH T Q v → sOl u0 ol Q → yk_body u0 ol k l → yp_code B lim d (yo_st (u0.2.2.1 7) ol) p = .inl (l, q) → k + l.length ≤ m → l.length < n → (∀ y, y ∈ ol → y.1 ≤ yo_i y ∧ yo_i y < k) → k0 ≤ k →
    HC (jb_Checker_checkBody_108 fu n b1 (nI k) v) (sq_run T F tc mc G L k l Q) fun Q' o => ∃ w, o = jb_Checker_checkBody_139 fu b1 w ∧ Q' = [] ∧ sG h k (k + l.length) v w ∧ ∀ (j : Nat) x Qj Qn, l[j]? = some x → sq_run T F tc mc G L k (l.take j) Q = some Qj → sq_step T F tc mc G L (k + j) x.1 x.2 Qj = some Qn → sRF T x.2 (k + j) Qj Qn w := by
  intro l
  induction l with
  | nil =>
    intro k ol Q v n d p q hg hH hol hbd hc hkm hn hB hk0
    obtain ⟨n, rfl⟩ : ∃ m, n = m + 1 := ⟨n - 1, by omega⟩
    have hol0 : ol = [] := by
      cases ol with
      | nil => rfl
      | cons x r =>
        cases d with
        | zero => rw [yp_code_0] at hc; cases hc
        | succ d =>
          have hc : yp_code B lim (d + 1) ((x.2.isNone && decide (u0.2.2.1 7 x.1 = 4)) :: yo_st (u0.2.2.1 7) r) p = .inl ([], q) := hc
          rw [yp_code_s] at hc
          obtain ⟨i, r1, h1, hc⟩ := yp_thenI hc
          cases hx : yn_next i.1 (x.2.isNone && decide (u0.2.2.1 7 x.1 = 4)) (yo_st (u0.2.2.1 7) r) with
          | none => rw [hx] at hc; cases hc
          | some st' =>
            rw [hx] at hc
            obtain ⟨l', r', h2, hc⟩ := yp_thenI (m := yp_code B lim d st' r1) hc
            cases hc
    have hQ : Q = [] := (sOl_n hol).mp hol0
    subst hQ
    have h21 : v.1 21 = 0 := hH.1
    unfold jb_Checker_checkBody_108
    simp only [xs_let]
    rw [if_pos (show v.1 21 ≤ 0 by rw [h21]; exact Int32.le_refl _), ite_self]
    exact HC_ok ⟨v, rfl, rfl, sG_r, fun j x Qj Qn hj => by simp at hj⟩
  | cons x r ih =>
    intro k ol Q v n d p q hg hH hol hbd hc hkm hn hB hk0
    obtain ⟨n, rfl⟩ : ∃ m, n = m + 1 := ⟨n - 1, by omega⟩
    rw [List.length_cons] at hkm hn
    obtain ⟨hent0, hbd⟩ := hbd
    cases d with
    | zero => rw [yp_code_0] at hc; cases hc
    | succ d =>
    cases ol with
    | nil =>
      have hc : yp_code B lim (d + 1) [] p = .inl (x :: r, q) := hc
      rw [yp_code_n] at hc
      cases hc
    | cons y rr =>
      have hst : yo_st (u0.2.2.1 7) (y :: rr) = (y.2.isNone && decide (u0.2.2.1 7 y.1 = 4)) :: yo_st (u0.2.2.1 7) rr := rfl
      rw [hst, yp_code_s] at hc
      obtain ⟨i, r1, h1, hc⟩ := yp_thenI hc
      cases hx : yn_next i.1 (y.2.isNone && decide (u0.2.2.1 7 y.1 = 4)) (yo_st (u0.2.2.1 7) rr) with
      | none => rw [hx] at hc; cases hc
      | some st' =>
        rw [hx] at hc
        obtain ⟨l', r', h2, hc⟩ := yp_thenI (m := yp_code B lim d st' r1) hc
        cases hc
        have hi := yp_insG h1
        cases Q with
        | nil => exact absurd hol id
        | cons f fq =>
          have hQ : ¬ f :: fq = [] := fun z => by cases z
          have e8 : v.1 8 = nI m := (hg.1.1 8 (by decide)).trans hm
          have hHl := hH.2.1
          have e21 : v.1 21 = nI (f :: fq).length := hH.1
          have hstp : jb_Checker_checkBody_108 fu (n + 1) b1 (nI k) v = xs_try (fm_Checker_checkInstruction fu (nI k) v) fun _ w => jb_Checker_checkBody_108 fu n b1 (nI (k + 1)) w := by
            conv => lhs; unfold jb_Checker_checkBody_108
            simp only [xs_let]
            rw [e8, if_neg (nI_ge (by omega) (by omega)), if_neg (show ¬ v.1 21 ≤ 0 by rw [e21]; exact nI_ge (a := 0) (by rw [List.length_cons]; omega) (by omega))]
            simp only [nI_1]
          rw [hstp]
          show HC _ ((sq_step T F tc mc G L k p i (f :: fq)).bind fun Q' => sq_run T F tc mc G L (k + 1) r Q') _
          have hmm : ∃ m, u0.1 8 = nI m ∧ k < m ∧ m ≤ 8192 := ⟨m, hm, by omega, hm2⟩
          have hent := sG_ent hw hg hol hQ hi hmm hent0
          have e7 : v.2.2.1 7 = u0.2.2.1 7 := hg.1.2.2.1 7 (by decide)
          have e8' : v.2.2.1 8 = u0.2.2.1 8 := hg.1.2.2.1 8 (by decide)
          have hne : ∀ g, g ∈ f :: fq → ¬ g.1.1 = k := fun g hg' => by
            obtain ⟨y', y1, y2⟩ := sOl_mem hol g hg'
            have := hB y' y1
            omega
          have hor := hol
          obtain ⟨o1, o2, o3, o4, o5, o6⟩ := hor
          have hop : ∀ o, o ∈ [0, 2, 3, 4, 5] → ¬ (nI (sh_op o) = 12 ∨ nI (sh_op o) = 13 ∨ nI (sh_op o) = 213 ∨ nI (sh_op o) = 214) := by decide +kernel
          refine HC_try (hi_step (pp := p) hfu (yCe_fr he hg.1 (by decide)) (sEn_fr hEn hg.1 (by decide)) (sLo_fr hLo hg.1 (by decide)) hH hQ (by omega) hi hent hne (fun z5 g rg hgr => ?_) (fun z11 g rg hgr z45 => ?_)) fun Q' b w es hI => ?_
          · cases hgr
            unfold yn_next at hx
            have z5 : i.1 = 5 := z5
            rw [if_neg (show ¬ i.1 = 11 by omega), if_pos z5] at hx
            cases hz : (y.2.isNone && decide (u0.2.2.1 7 y.1 = 4)) with
            | false => rw [hz] at hx; cases hx
            | true =>
              obtain ⟨c1, c2⟩ := Bool.and_eq_true_iff.mp hz
              have c2 := of_decide_eq_true c2
              rw [o1, o4] at c2
              rcases (sh_4 _ o5).mp c2 with t | t
              · exact t
              · cases hy2 : y.2 with
                | none => rw [hy2] at o2; exact absurd t o2
                | some e => rw [hy2] at c1; cases c1
          · cases hgr
            have z11 : i.1 = 11 := z11
            cases hy2 : y.2 with
            | none =>
              rw [hy2] at o2
              have f4 : f.2.1 = 4 := by rcases z45 with t | t; exact t; exact absurd t o2
              refine ⟨k, ?_, by omega, ?_⟩
              · have := hent.2.2.2.1 z11 y rr rfl
                rw [show yo_i y = y.1 by unfold yo_i; rw [hy2]; rfl, o1] at this
                exact this
              · have hne2 : ¬ rr = [] := fun t => by
                  have h0 := (sOl_n o6).mp t
                  have := o3.mp h0
                  omega
                rw [if_pos f4, hent.1, if_pos z11, if_neg (show ¬ (y :: rr).tail = [] from hne2)]
            | some e =>
              rw [hy2] at o2
              obtain ⟨t1, t2, t3, t4⟩ := o2
              refine ⟨e, ?_, t3, ?_⟩
              · rw [hg.2.2.1 f.1.1 (by rw [o4]; exact hop _ o5), ← o1]; exact t2
              · rw [if_neg (show ¬ f.2.1 = 4 by omega), e7]; exact t4
          · obtain ⟨hH', hPo⟩ := hI
            obtain ⟨ol1, ol2⟩ := sOl_step hol hQ (by omega) hi hent0 hst hx es
            have hop3 : i.1 = 2 ∨ i.1 = 3 ∨ i.1 = 4 → ∀ g rg, Q' = g :: rg → g.1.1 = k := fun z g rg hgr => by
              subst hgr
              have hstepo : yo_step (y :: rr) k i.1 = (k, none) :: y :: rr := by
                unfold yo_step
                rw [if_neg (by omega), if_neg (by omega), if_pos z]
              rw [hstepo] at ol1
              exact ol1.1.symm
            obtain ⟨hG1, hRF⟩ := sG_step hw e7 e8' hmm hent hi (hg.2.1 k (Or.inr (Nat.le_refl _))).2.2 hPo hH' hop3
            have hG01 := sG_t hw.1 hk0 (Nat.le_succ k) hg hG1
            rw [ol2] at h2
            refine HC_mono (ih (k + 1) (yo_step (y :: rr) k i.1) Q' w n d r1 q hG01 hH' ol1 hbd h2 (by omega) (by omega) (yo_stepB hB) (by omega)) fun Q2 _ hJ => ?_
            obtain ⟨z, j1, j2, j3, j4⟩ := hJ
            refine ⟨z, j1, j2, ?_, fun j xx Qj Qn hj hr hs2 => ?_⟩
            · have := sG_t hw.1 (Nat.le_succ k) (show k + 1 ≤ k + 1 + r.length by omega) hG1 j3
              rw [List.length_cons, show k + (r.length + 1) = k + 1 + r.length by omega]
              exact this
            · cases j with
              | zero =>
                cases hj
                cases hr
                have hQn : Qn = Q' := by
                  have hs2 : sq_step T F tc mc G L k p i (f :: fq) = some Qn := hs2
                  rw [es] at hs2
                  exact (Option.some.inj hs2).symm
                subst hQn
                show sRF T i k (f :: fq) Qn z
                obtain ⟨r1', r2', r3', r4'⟩ := hRF
                obtain ⟨q1, q2, q3⟩ := j3.2.1 k (by omega)
                have q8 : z.2.2.1 8 = w.2.2.1 8 := j3.1.2.2.1 8 (by decide)
                refine ⟨fun zz => by rw [q1]; exact r1' zz, fun zz => ?_, fun zz g rg hgr => by rw [q2, q3]; exact r3' zz g rg hgr, fun zz => by rw [q3]; exact r4' zz⟩
                obtain ⟨s, s1, s2, s3, s4⟩ := r2' zz
                refine ⟨s, by rw [q8]; exact s1, s2, by rw [q3]; exact s3, fun jj c hcc => ?_⟩
                obtain ⟨ff, g1, g2⟩ := s4 jj c hcc
                refine ⟨ff, g1, ?_⟩
                rw [j3.2.2.2 (s + jj) (Or.inl ?_)]
                · exact g2
                · -- the numbers of this entry lie ahead of the next
                  obtain ⟨sz, w1, w2, w3⟩ := hw.2
                  have hsz : sz = m := (nI_eq (by omega) (by omega)).mp (w1.symm.trans hm)
                  have h7 : u0.2.2.1 7 k = 14 := by rw [hent0.1, zz]; rfl
                  obtain ⟨s', c', d1, d2, d3, d4, d5⟩ := w3 k (by omega) h7
                  have e8w : w.2.2.1 8 = v.2.2.1 8 := hPo.1.2.2.1 8 (by decide)
                  have hs' : s' = s := by
                    rw [e8w, e8', d1] at s1
                    exact (nI_eq (by omega) (by omega)).mp s1
                  have hcl : c' = i.2.2.2.2.length := by
                    have hb2 : v.2.2.2 2 k = lN c' := by rw [(hg.2.1 k (Or.inr (Nat.le_refl _))).2.2]; exact d2
                    have h22 : v.2.2.2 2 k = ye_2 (xt_S i.1) i.2 := hent.2.1
                    rw [zz, show xt_S 14 = 114 from rfl, ye2_114, hb2] at h22
                    exact (pk_lEQ (by omega) (by omega)).mp h22
                  have := yl_lt hcc
                  rw [List.length_append, List.length_singleton] at this
                  omega
              | succ j =>
                have hj : r[j]? = some xx := hj
                have hr : ((sq_step T F tc mc G L k p i (f :: fq)).bind fun Q' => sq_run T F tc mc G L (k + 1) (r.take j) Q') = some Qj := hr
                rw [es] at hr
                have := j4 j xx Qj Qn hj hr (by rw [show k + 1 + j = k + (j + 1) by omega]; exact hs2)
                rw [show k + 1 + j = k + (j + 1) by omega] at this
                exact this
end
