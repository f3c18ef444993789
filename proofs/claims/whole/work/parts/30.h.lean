section
variable {α β γ δ σ τ : Type} {B : Nat → Int32} {u v w x u0 : xk_St} {g : Nat → Nat} {T : List (Nat × List Nat × List Nat)} {F : List Nat} {G : List (Nat × Nat × Nat × Int64)} {L : List Nat} {n fu tc mc lim p q len f : Nat} {Q Q' : List sFr} {s : Option (List sFr)}
theorem mEn_fr {I J A C : List Nat} (h : mEn T F tc mc G v) (hf : yf_fr I J A C v w) (hd : (yf_no [13, 14, 15, 18] I && yf_no [9, 14, 15] A) = true) : mEn T F tc mc G w := by
  have hd := Bool.and_eq_true_iff.mp hd
  unfold mEn
  rw [hf.1 13 (yf_nok hd.1 (by simp)), hf.1 14 (yf_nok hd.1 (by simp)), hf.1 15 (yf_nok hd.1 (by simp)), hf.1 18 (yf_nok hd.1 (by simp)), hf.2.2.1 9 (yf_nok hd.2 (by simp)), hf.2.2.1 14 (yf_nok hd.2 (by simp)), hf.2.2.1 15 (yf_nok hd.2 (by simp))]
  exact h
theorem mLo_fr {I J A C : List Nat} (h : mLo T L f v) (hf : yf_fr I J A C v w) (hd : yf_no [12, 13] A = true) : mLo T L f w := by
  unfold mLo
  rw [hf.2.2.1 12 (yf_nok hd (by simp)), hf.2.2.1 13 (yf_nok hd (by simp))]
  exact h
/-- where a row of 0x0e lies, as it can be read -/
theorem yp_ins14 {i : sIn} (h : yp_ins B lim p = .inl (i, q)) (h14 : i.1 = 14) : i.2.2.2.1 ≤ lim ∧ ∃ q1, yp_rep (yp_N B lim) i.2.2.2.2.length i.2.2.2.1 = .inl (i.2.2.2.2, q1) := by
  unfold yp_ins at h
  obtain ⟨b, q1, h1, h⟩ := yp_thenI h
  by_cases zb : b = 251
  · rw [if_pos zb] at h
    obtain ⟨m, q2, h2, h⟩ := yp_thenI h
    by_cases z : m ≤ 30
    · rw [if_pos z] at h
      obtain ⟨j, q3, h3, h⟩ := yp_thenI h
      cases h
      have h14 : 256 + m = 14 := h14
      omega
    · rw [if_neg z] at h; cases h
  · rw [if_neg zb] at h
    obtain ⟨j, q3, h3, h⟩ := yp_thenI h
    cases h
    have h14 : b.toNatClampNeg = 14 := h14
    rw [h14, show xt_S 14 = 114 by decide +kernel] at h3
    unfold yp_imm at h3
    rw [if_neg (by decide), if_neg (by decide), if_neg (by decide), if_neg (by decide), if_neg (by decide), if_neg (by decide), if_neg (by decide), if_pos rfl] at h3
    obtain ⟨m, r1, k1, h3⟩ := yp_thenI h3
    obtain ⟨l, r2, k2, h3⟩ := yp_thenI h3
    obtain ⟨c, r3, k3, h3⟩ := yp_thenI h3
    cases h3
    have hl := yp_repl k2
    refine ⟨(yp_Nb k1).2.2, r2, ?_⟩
    show yp_rep (yp_N B lim) l.length r1 = .inl (l, r2)
    rw [hl]; exact k2
/-- the place behind instruction j -/
def yq (l : List (Nat × sIn)) (q j : Nat) : Nat := match l[j + 1]? with
  | some y => y.1
  | none => q
theorem yp_codeH {d : Nat} {st : List Bool} {l : List (Nat × sIn)} (h : yp_code B lim d st p = .inl (l, q)) : (match l[0]? with
    | some y => y.1
    | none => q) = p := by
  cases d with
  | zero => rw [yp_code_0] at h; cases h
  | succ d =>
    cases st with
    | nil => rw [yp_code_n] at h; cases h; rfl
    | cons b st =>
      rw [yp_code_s] at h
      obtain ⟨i, q1, h1, h⟩ := yp_thenI h
      cases hn : yn_next i.1 b st with
      | none => rw [hn] at h; cases h
      | some st' =>
        rw [hn] at h
        obtain ⟨l', q2, h2, h⟩ := yp_thenI (show yp_then (yp_code B lim d st' q1) _ = _ from h)
        cases h
        rfl
/-- what the reference has noted of the ends and elses of a body -/
def mNt (T : List (Nat × List Nat × List Nat)) (F : List Nat) (tc mc : Nat) (G : List (Nat × Nat × Nat × Int64)) (L : List Nat) (e : Nat) (l : List (Nat × sIn)) (q : Nat) (Q : List sFr) (w : xk_St) : Prop := ∀ (j : Nat) x f r, l[j]? = some x → sq_run T F tc mc G L e (l.take j) Q = some (f :: r) → f.1.2 < q ∧ (x.2.1 = 11 → w.2.2.1 20 f.1.2 = nI (yq l q j) ∧ (f.2.1 = 4 → w.2.2.1 21 f.1.2 = 0)) ∧ (x.2.1 = 5 → w.2.2.1 21 f.1.2 = nI (yq l q j))
/-- what a check may change in the reference -/
def mCf (v w : xk_St) : Prop := yf_fr [4, 5, 6, 7, 8, 9, 10, 11, 21, 22, 23] [0, 1] [20, 21, 22, 23, 24, 25, 26] [1] v w ∧ w.1 5 = v.1 3 ∧ w.1 6 = 0
theorem sq_stepM {e p : Nat} {i : sIn} (hQ : ¬ Q = []) (h : sq_step T F tc mc G L e p i Q = some Q') : ∀ f', f' ∈ Q' → f'.1.2 = p ∨ ∃ f, f ∈ Q ∧ f'.1.2 = f.1.2 ∧ (f'.2.1 = f.2.1 ∨ f'.2.1 = 5) := by
  cases Q with
  | nil => exact absurd rfl hQ
  | cons f r =>
    obtain ⟨s1, s2, s3, s4⟩ := sq_stepS h
    intro a ha
    by_cases zb : i.1 = 2 ∨ i.1 = 3 ∨ i.1 = 4
    · obtain ⟨f', st, e1, e2⟩ := s1 zb
      rw [e1] at ha
      rcases List.mem_cons.mp ha with y | ha
      · rw [y]; exact Or.inl rfl
      · rcases List.mem_cons.mp ha with y | ha
        · rw [y]; exact Or.inr ⟨f, List.mem_cons_self, by rw [e2.1], Or.inl e2.2.1⟩
        · exact Or.inr ⟨a, List.mem_cons_of_mem _ ha, rfl, Or.inl rfl⟩
    · by_cases z5 : i.1 = 5
      · obtain ⟨st, e1⟩ := s2 z5
        rw [e1] at ha
        rcases List.mem_cons.mp ha with y | ha
        · rw [y]; exact Or.inr ⟨f, List.mem_cons_self, rfl, Or.inr rfl⟩
        · exact Or.inr ⟨a, List.mem_cons_of_mem _ ha, rfl, Or.inl rfl⟩
      · by_cases z11 : i.1 = 11
        · rcases s3 z11 with ⟨a1, b⟩ | ⟨b, b', r1, a1, a2, a3⟩
          · rw [a1] at ha; cases ha
          · rw [a2] at ha
            rcases List.mem_cons.mp ha with y | ha
            · rw [y]; exact Or.inr ⟨b, List.mem_cons_of_mem _ (by rw [a1]; exact List.mem_cons_self), by rw [a3.1], Or.inl a3.2.1⟩
            · exact Or.inr ⟨a, List.mem_cons_of_mem _ (by rw [a1]; exact List.mem_cons_of_mem _ ha), rfl, Or.inl rfl⟩
        · obtain ⟨f', e1, e2⟩ := s4 (by omega)
          rw [e1] at ha
          rcases List.mem_cons.mp ha with y | ha
          · rw [y]; exact Or.inr ⟨f, List.mem_cons_self, by rw [e2.1], Or.inl e2.2.1⟩
          · exact Or.inr ⟨a, List.mem_cons_of_mem _ ha, rfl, Or.inl rfl⟩
/-- bounds that each state of a check keeps -/
def sQb (T : List (Nat × List Nat × List Nat)) (Q : List sFr) : Prop := sq_h Q ≤ 100 ∧ Q.length ≤ 100 ∧ sq_ok T Q
theorem mc_run (hfu : 8400 ≤ fu) : ∀ (l : List (Nat × sIn)) (e d p q n : Nat) (st : List Bool) (Q : List sFr) (v : xk_St), yp_code B lim d st p = .inl (l, q) → sM st Q → l.length < n → ym_st B lim p v → v.1 6 = 0 → v.1 7 = 0 → mS T Q v → yTM T v → mEn T F tc mc G v → mLo T L f v → mI Q p v →
    ∃ w, jb_Model_check_37 fu n (nI f) v = some ((), w) ∧ mCf v w ∧ (w.1 7 = 0 → ∀ k, k < p → (¬ k ∈ sPs Q → w.2.2.1 20 k = v.2.2.1 20 k) ∧ ((∀ f, f ∈ Q → f.1.2 = k → ¬ f.2.1 = 4) → w.2.2.1 21 k = v.2.2.1 21 k)) ∧ (((∃ Q', sq_run T F tc mc G L e l Q = some Q') ∧ w.1 7 = 0 ∧ mNt T F tc mc G L e l q Q w ∧ ∀ (j : Nat) Qj, j ≤ l.length → sq_run T F tc mc G L e (l.take j) Q = some Qj → sQb T Qj) ∨ (sq_run T F tc mc G L e l Q = none ∧ w.1 7 = 1)) := by
  intro l
  induction l with
  | nil =>
    intro e d p q n st Q v hc hM hn hst h6 h7 hS hE hEn hLo hI
    obtain ⟨n, rfl⟩ : ∃ m, n = m + 1 := ⟨n - 1, by omega⟩
    have hst0 : st = [] := by
      cases d with
      | zero => rw [yp_code_0] at hc; cases hc
      | succ d =>
        cases st with
        | nil => rfl
        | cons b st =>
          rw [yp_code_s] at hc
          obtain ⟨i, q1, h1, h⟩ := yp_thenI hc
          cases hn : yn_next i.1 b st with
          | none => rw [hn] at h; cases h
          | some st' =>
            rw [hn] at h
            obtain ⟨l', q2, h2, h⟩ := yp_thenI (show yp_then (yp_code B lim d st' q1) _ = _ from h)
            cases h
    have hQ := (sM_len hM).mp hst0
    subst hQ
    have h22 : v.1 22 = 0 := hS.1
    unfold jb_Model_check_37
    simp only [xs_let]
    rw [h22, if_pos (by decide)]
    refine ⟨_, rfl, ⟨yf_I yf_refl (by decide), rfl, h6⟩, fun _ k _ => ⟨fun _ => rfl, fun _ => rfl⟩, Or.inl ⟨⟨[], rfl⟩, h7, fun j x f r hx => by simp at hx, fun j Qj hj hr => by
      obtain rfl : j = 0 := by simpa using hj
      cases hr
      exact ⟨hS.2.2.2.1, hS.2.1, hS.2.2.2.2.2.2⟩⟩⟩
  | cons x l ih =>
    intro e d p q n st Q v hc hM hn hst h6 h7 hS hE hEn hLo hI
    obtain ⟨n, rfl⟩ : ∃ m, n = m + 1 := ⟨n - 1, by omega⟩
    have hn2 : l.length < n := by rw [List.length_cons] at hn; omega
    clear hn
    cases d with
    | zero => rw [yp_code_0] at hc; cases hc
    | succ d =>
      cases st with
      | nil => rw [yp_code_n] at hc; cases hc
      | cons b st =>
        rw [yp_code_s] at hc
        obtain ⟨i, q1, h1, hc⟩ := yp_thenI hc
        cases hnx : yn_next i.1 b st with
        | none => rw [hnx] at hc; cases hc
        | some st' =>
          rw [hnx] at hc
          obtain ⟨l', q2, h2, hc⟩ := yp_thenI (show yp_then (yp_code B lim d st' q1) _ = _ from hc)
          cases hc
          have hQ : ¬ Q = [] := fun y => by have := (sM_len hM).mpr y; cases this
          have hlim := hst.2.2.2.2
          have hQl : 0 < Q.length := List.length_pos_iff.mpr hQ
          have hQ100 := hS.2.1
          have n22 : ¬ v.1 22 ≤ 0 := by rw [hS.1]; exact fun y => by have := (nI_leI (b := 0) (by omega) (by decide)).mp y; omega
          -- the instruction is read again
          have hf0 : yf_fr [23] [] [] [] v (xs_I v 23 (v.1 4)) := yf_I yf_refl (by decide)
          have hst0 : ym_st B lim p (xs_I v 23 (v.1 4)) := hst
          obtain ⟨r, y, e1, hsty, y6, hyi⟩ := zC_g (mm_ins (fu := fu) (by omega) (by omega) hst0 h6) h1
          have hfy := yf_fm_Model_instruction _ _ e1
          have hvy : yf_fr [4, 6, 8, 9, 10, 11, 23] [0, 1] [] [] v y := yf_trans (yf_mono hf0 (by decide)) (yf_mono hfy (by decide))
          have y23 : y.1 23 = nI p := by rw [hfy.1 23 (by decide)]; exact hst.2.1
          have y7 : y.1 7 = 0 := (hvy.1 7 (by decide)).trans h7
          have hgi := yp_insG h1
          have hq1 : p < q1 ∧ q1 ≤ lim := yp_ins_eats _ _ _ h1
          have hS' := mS_fr hS hvy (by decide)
          have hE' := yTM_fr hE hvy (by decide)
          have hEn' := mEn_fr hEn hvy (by decide)
          have hLo' := mLo_fr hLo hvy (by decide)
          have hI' : mI Q p y := ⟨hI.1, fun g hg h4 => by rw [hvy.2.2.1 21 (by decide)]; exact hI.2 g hg h4⟩
          obtain ⟨r2, z, e2, ⟨hfz, hz⟩, hN⟩ := mi_step (fu := fu) (L := L) (e := e) (lim := lim) (B := B) (f := f) (p := p) (by omega) (by omega) hE' hS' hQ y7 hEn' hLo' hgi hyi y23 (by omega) hsty.1 hsty.2.2.1 hlim y6 (yp_ins14 h1)
          have hstep : jb_Model_check_37 fu (n + 1) (nI f) v = jb_Model_check_37 fu n (nI f) z := by
            conv => lhs; unfold jb_Model_check_37
            simp only [xs_let]
            rw [if_neg n22, if_pos h7, e1, ys_seq]
            unfold md_st at e2
            by_cases c1 : (32 : Int32) ≤ y.1 8
            · rw [if_pos c1] at e2 ⊢
              by_cases c2 : (40 : Int32) ≤ y.1 8
              · rw [if_pos c2] at e2 ⊢
                by_cases c3 : (65 : Int32) ≤ y.1 8
                · rw [if_pos c3] at e2 ⊢
                  by_cases c4 : (208 : Int32) ≤ y.1 8
                  · rw [if_pos c4] at e2 ⊢
                    by_cases c5 : (251 : Int32) ≤ y.1 8
                    · rw [if_pos c5] at e2 ⊢; rw [e2, ys_seq]
                    · rw [if_neg c5] at e2 ⊢; rw [e2, ys_seq]
                  · rw [if_neg c4] at e2 ⊢; rw [e2, ys_seq]
                · rw [if_neg c3] at e2 ⊢; rw [e2, ys_seq]
              · rw [if_neg c2] at e2 ⊢; rw [e2, ys_seq]
            · rw [if_neg c1] at e2 ⊢; rw [e2, ys_seq]
          rw [hstep]
          have hvz : yf_fr [4, 6, 7, 8, 9, 10, 11, 21, 22, 23] [0, 1] [20, 21, 22, 23, 24, 25, 26] [1] v z := yf_trans (yf_mono hvy (by decide)) (yf_mono hfz (by decide))
          have z6 : z.1 6 = 0 := (hfz.1 6 (by decide)).trans y6
          rcases hz with ⟨Q1, s1, z7, hSz⟩ | ⟨s1, z7⟩
          · have hMs := sM_step hQ s1 hnx hM
            obtain ⟨j1, j2, j3⟩ := mI_step hQ s1 hI' hN z7 hq1.1 hMs.2
            have hstz : ym_st B lim q1 z := ⟨(hfz.2.2.1 1 (by decide)).trans hsty.1, (hfz.1 4 (by decide)).trans hsty.2.1, (hfz.1 5 (by decide)).trans hsty.2.2.1, hsty.2.2.2.1, hlim⟩
            obtain ⟨w, ew, hw1, hw2, hw3⟩ := ih (e + 1) d q1 q n st' Q1 z h2 hMs.1 hn2 hstz z6 z7 hSz (yTM_fr hE' hfz (by decide)) (mEn_fr hEn' hfz (by decide)) (mLo_fr hLo' hfz (by decide)) j1
            have hmem := sq_stepM hQ s1
            have hpl : ∀ a, a ∈ sPs Q → a < p := sPl_lt hI.1
            refine ⟨w, ew, ⟨yf_trans (yf_mono hvz (by decide)) hw1.1, by rw [hw1.2.1, hvz.1 3 (by decide)], hw1.2.2⟩, fun w7 k hk => ?_, ?_⟩
            · obtain ⟨a1, a2⟩ := hw2 w7 k (by omega)
              obtain ⟨b1, b2⟩ := j2 k hk
              refine ⟨fun hn => ?_, fun hn => ?_⟩
              · rw [a1 fun y => ?_, b1 hn, hvy.2.2.1 20 (by decide)]
                obtain ⟨f', m1, m2⟩ := List.mem_map.mp y
                rcases hmem f' m1 with t | ⟨g, t1, t2, -⟩
                · omega
                · exact hn (List.mem_map.mpr ⟨g, t1, by rw [← t2]; exact m2⟩)
              · rw [a2 fun f' m1 m2 h4 => ?_, b2 hn, hvy.2.2.1 21 (by decide)]
                rcases hmem f' m1 with t | ⟨g, t1, t2, t3⟩
                · omega
                · rcases t3 with t3 | t3
                  · exact hn g t1 (by omega) (by omega)
                  · omega
            · have hrun : ∀ l', sq_run T F tc mc G L e ((p, i) :: l') Q = sq_run T F tc mc G L (e + 1) l' Q1 := fun l' => by
                show (sq_step T F tc mc G L e p i Q).bind _ = _
                rw [s1]; rfl
              rcases hw3 with ⟨⟨Q', a1⟩, a2, a3, a4⟩ | ⟨a1, a2⟩
              · refine Or.inl ⟨⟨Q', by rw [hrun]; exact a1⟩, a2, fun j x' f' r' hx hr => ?_, fun j Qj hj hr => ?_⟩
                rotate_left
                · cases j with
                  | zero =>
                    cases hr
                    exact ⟨hS.2.2.2.1, hS.2.1, hS.2.2.2.2.2.2⟩
                  | succ j =>
                    rw [List.length_cons] at hj
                    have hr : sq_run T F tc mc G L e ((p, i) :: l.take j) Q = some Qj := hr
                    rw [hrun] at hr
                    exact a4 j Qj (by omega) hr
                cases j with
                | zero =>
                  cases hx
                  have hr : some Q = some (f' :: r') := hr
                  cases hr
                  obtain ⟨c1, c2⟩ := j3 f' r' rfl
                  have hf' : f'.1.2 < q1 := by have := hpl f'.1.2 (List.mem_cons_self); omega
                  have hyq : yq ((p, i) :: l) q 0 = q1 := yp_codeH h2
                  obtain ⟨b1, b2⟩ := hw2 a2 f'.1.2 hf'
                  rw [hyq]
                  have hqq := yp_code_ge hq1.2 h2
                  refine ⟨by omega, fun h11 => ?_, fun h5 => ?_⟩
                  · obtain ⟨d1, d2, d3⟩ := c1 h11
                    refine ⟨by rw [b1 d2, d1, hsty.2.1], fun h4 => ?_⟩
                    rw [b2 fun g hg hg2 => absurd (List.mem_map.mpr ⟨g, hg, hg2⟩) d2]
                    exact d3 h4
                  · obtain ⟨d1, d2⟩ := c2 h5
                    rw [b2 d2, d1, hsty.2.1]
                | succ j =>
                  have hr : sq_run T F tc mc G L e ((p, i) :: l.take j) Q = some (f' :: r') := hr
                  rw [hrun] at hr
                  exact a3 j x' f' r' hx hr
              · exact Or.inr ⟨by rw [hrun]; exact a1, a2⟩
          · obtain ⟨n, rfl⟩ : ∃ m, n = m + 1 := ⟨n - 1, by omega⟩
            have hend : jb_Model_check_37 fu (n + 1) (nI f) z = some ((), xs_I z 5 (z.1 3)) := by
              unfold jb_Model_check_37
              simp only [xs_let]
              split
              · rfl
              · rw [if_neg (by rw [z7]; decide)]
            refine ⟨_, hend, ⟨yf_I (yf_mono hvz (by decide)) (by decide), ?_, z6⟩, fun w7 => ?_, Or.inr ⟨?_, z7⟩⟩
            · show z.1 3 = v.1 3
              exact hvz.1 3 (by decide)
            · have w7 : z.1 7 = 0 := w7
              rw [z7] at w7
              exact absurd w7 (by decide)
            · show (sq_step T F tc mc G L e p i Q).bind _ = none
              rw [s1]; rfl
end
