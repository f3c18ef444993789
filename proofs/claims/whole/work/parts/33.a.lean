section
variable {α β γ δ σ τ : Type} {B : Nat → Int32} {u v w x u0 : xk_St} {T : List (Nat × List Nat × List Nat)} {F : List Nat} {G : List (Nat × Nat × Nat × Int64)} {L : List Nat} {n fu tc mc lim p q len f D k : Nat} {Q Q' Q1 : List sFr}
theorem yp_codeI {d : Nat} {st : List Bool} {y : Nat × sIn} {l : List (Nat × sIn)} (hc : yp_code B lim d st p = .inl (y :: l, q)) : ∃ d' b st0 st' q1, d = d' + 1 ∧ st = b :: st0 ∧ y.1 = p ∧ yp_ins B lim p = .inl (y.2, q1) ∧ yn_next y.2.1 b st0 = some st' ∧ yp_code B lim d' st' q1 = .inl (l, q) := by
  cases d with
  | zero => rw [yp_code_0] at hc; cases hc
  | succ d =>
    cases st with
    | nil => rw [yp_code_n] at hc; cases hc
    | cons b st =>
      rw [yp_code_s] at hc
      obtain ⟨i, q1, h1, hc⟩ := yp_thenI hc
      cases hnx : yn_next i.1 b st with
      | none => rw [hnx] at hc; cases hc
      | some st' =>
        rw [hnx] at hc
        obtain ⟨l', q2, h2, hc⟩ := yp_thenI (show yp_then (yp_code B lim d st' q1) _ = _ from hc)
        cases hc
        exact ⟨d, b, st, st', q1, rfl, rfl, rfl, h1, hnx, h2⟩
/-- the blocks that stand open before each instruction, as reading and check have them -/
theorem sOl_run : ∀ {l : List (Nat × sIn)} {k d p q : Nat} {ol : List (Nat × Option Nat)} {Q : List sFr}, sOl u ol Q → yk_body u ol k l → yp_code B lim d (yo_st (u.2.2.1 7) ol) p = .inl (l, q) → k + l.length ≤ 8192 → ∀ (j : Nat) x Qj, l[j]? = some x → sq_run T F tc mc G L k (l.take j) Q = some Qj → ∃ olj, sOl u olj Qj ∧ yk_ent u olj (k + j) x.2 := by
  intro l
  induction l with
  | nil => intro k d p q ol Q _ _ _ _ j x Qj hx; simp at hx
  | cons y l ih =>
    intro k d p q ol Q ho hb hc hk j x Qj hx hr
    rw [List.length_cons] at hk
    cases j with
    | zero =>
      cases hx
      cases hr
      exact ⟨ol, ho, hb.1⟩
    | succ j =>
      obtain ⟨Q1, h1, h2⟩ := Option.bind_eq_some_iff.mp (show (sq_step T F tc mc G L k y.1 y.2 Q).bind (fun Q' => sq_run T F tc mc G L (k + 1) (l.take j) Q') = some Qj from hr)
      obtain ⟨d', b, st0, st', q1, -, e2, -, e4, e5, e6⟩ := yp_codeI hc
      have hQ : ¬ Q = [] := fun y => by
        have := (sOl_n ho).mpr y
        rw [this] at e2; cases e2
      obtain ⟨s1, s2⟩ := sOl_step ho hQ (by omega) (yp_insG e4) hb.1 e2 e5 h1
      rw [s2] at e6
      obtain ⟨olj, a1, a2⟩ := ih s1 hb.2 e6 (by omega) j x Qj hx h2
      exact ⟨olj, a1, by rw [show k + (j + 1) = k + 1 + j by omega]; exact a2⟩
/-- behind the last instruction no block is open -/
theorem sq_fin : ∀ {l : List (Nat × sIn)} {e d p q : Nat} {st : List Bool} {Q Q' : List sFr}, yp_code B lim d st p = .inl (l, q) → sM st Q → sq_run T F tc mc G L e l Q = some Q' → Q' = [] := by
  intro l
  induction l with
  | nil =>
    intro e d p q st Q Q' hc hM hr
    cases hr
    refine (sM_len hM).mp ?_
    cases d with
    | zero => rw [yp_code_0] at hc; cases hc
    | succ d =>
      cases st with
      | nil => rfl
      | cons b st =>
        rw [yp_code_s] at hc
        obtain ⟨i, q1, h1, h⟩ := yp_thenI hc
        cases hn : yn_next i.1 b st with
        | none => rw [hn] at h; cases h
        | some st' =>
          rw [hn] at h
          obtain ⟨l', q2, h2, h⟩ := yp_thenI (show yp_then (yp_code B lim d st' q1) _ = _ from h)
          cases h
  | cons y l ih =>
    intro e d p q st Q Q' hc hM hr
    obtain ⟨Q1, h1, h2⟩ := Option.bind_eq_some_iff.mp (show (sq_step T F tc mc G L e y.1 y.2 Q).bind (fun Q' => sq_run T F tc mc G L (e + 1) l Q') = some Q' from hr)
    obtain ⟨d', b, st0, st', q1, -, e2, -, e4, e5, e6⟩ := yp_codeI hc
    have hQ : ¬ Q = [] := fun y => by
      have := (sM_len hM).mpr y
      rw [this] at e2; cases e2
    rw [e2] at hM
    exact ih e6 (sM_step hQ h1 e5 hM).1 h2
/-- each open block has its end -/
theorem sq_close : ∀ {l : List (Nat × sIn)} {e : Nat} {Q : List sFr}, sq_run T F tc mc G L e l Q = some [] → ∀ (d : Nat) f, Q[d]? = some f → ∃ je x f', l[je]? = some x ∧ x.2.1 = 11 ∧ sq_run T F tc mc G L e (l.take je) Q = some (f' :: Q.drop (d + 1)) ∧ f'.1 = f.1 ∧ f'.2.2.1 = f.2.2.1 ∧ (f'.2.1 = f.2.1 ∨ f'.2.1 = 5) := by
  intro l
  induction l with
  | nil =>
    intro e Q hr d f hd
    cases hr
    simp at hd
  | cons y l ih =>
    intro e Q hr d f hd
    obtain ⟨Q1, h1, h2⟩ := Option.bind_eq_some_iff.mp (show (sq_step T F tc mc G L e y.1 y.2 Q).bind (fun Q' => sq_run T F tc mc G L (e + 1) l Q') = some [] from hr)
    have back : ∀ (d1 : Nat) f1, Q1[d1]? = some f1 → f1.1 = f.1 → f1.2.2.1 = f.2.2.1 → (f1.2.1 = f.2.1 ∨ f1.2.1 = 5) → Q1.drop (d1 + 1) = Q.drop (d + 1) → ∃ je x f', (y :: l)[je]? = some x ∧ x.2.1 = 11 ∧ sq_run T F tc mc G L e ((y :: l).take je) Q = some (f' :: Q.drop (d + 1)) ∧ f'.1 = f.1 ∧ f'.2.2.1 = f.2.2.1 ∧ (f'.2.1 = f.2.1 ∨ f'.2.1 = 5) := fun d1 f1 g1 g2 g3 g4 g5 => by
      obtain ⟨je, x, f', k1, k2, k3, k4, k5, k6⟩ := ih h2 d1 f1 g1
      refine ⟨je + 1, x, f', k1, k2, ?_, k4.trans g2, k5.trans g3, ?_⟩
      · show (sq_step T F tc mc G L e y.1 y.2 Q).bind (fun Q' => sq_run T F tc mc G L (e + 1) (l.take je) Q') = _
        rw [h1, ← g5]
        exact k3
      · rcases k6 with t | t
        · rcases g4 with t2 | t2
          · exact Or.inl (t.trans t2)
          · exact Or.inr (t.trans t2)
        · exact Or.inr t
    cases Q with
    | nil => simp at hd
    | cons f0 r =>
      obtain ⟨s1, s2, s3, s4⟩ := sq_stepS h1
      by_cases zb : y.2.1 = 2 ∨ y.2.1 = 3 ∨ y.2.1 = 4
      · obtain ⟨f0', st, e1, e2⟩ := s1 zb
        cases d with
        | zero =>
          cases hd
          exact back 1 f0' (by rw [e1]; rfl) e2.1 e2.2.2 (Or.inl e2.2.1) (by rw [e1]; rfl)
        | succ d =>
          exact back (d + 2) f (by rw [e1]; exact hd) rfl rfl (Or.inl rfl) (by rw [e1]; rfl)
      · by_cases z5 : y.2.1 = 5
        · obtain ⟨st, e1⟩ := s2 z5
          cases d with
          | zero =>
            cases hd
            exact back 0 (f.1, 5, f.2.2.1, false, st) (by rw [e1]; rfl) rfl rfl (Or.inr rfl) (by rw [e1]; rfl)
          | succ d => exact back (d + 1) f (by rw [e1]; exact hd) rfl rfl (Or.inl rfl) (by rw [e1]; rfl)
        · by_cases z11 : y.2.1 = 11
          · cases d with
            | zero =>
              cases hd
              exact ⟨0, y, f, rfl, z11, rfl, rfl, rfl, Or.inl rfl⟩
            | succ d =>
              have hd : r[d]? = some f := hd
              rcases s3 z11 with ⟨a1, a2⟩ | ⟨a, a', r1, a1, a2, a3⟩
              · rw [a2] at hd; simp at hd
              · rw [a1] at hd
                cases d with
                | zero =>
                  cases hd
                  exact back 0 a' (by rw [a2]; rfl) a3.1 a3.2.2 (Or.inl a3.2.1) (by rw [a2, a1]; rfl)
                | succ d => exact back (d + 1) f (by rw [a2]; exact hd) rfl rfl (Or.inl rfl) (by rw [a2, a1]; rfl)
          · obtain ⟨f0', e1, e2⟩ := s4 (by omega)
            cases d with
            | zero =>
              cases hd
              exact back 0 f0' (by rw [e1]; rfl) e2.1 e2.2.2 (Or.inl e2.2.1) (by rw [e1]; rfl)
            | succ d => exact back (d + 1) f (by rw [e1]; exact hd) rfl rfl (Or.inl rfl) (by rw [e1]; rfl)
theorem sq_run_app : ∀ {l l2 : List (Nat × sIn)} {e : Nat} {Q : List sFr}, sq_run T F tc mc G L e (l ++ l2) Q = (sq_run T F tc mc G L e l Q).bind (sq_run T F tc mc G L (e + l.length) l2) := by
  intro l
  induction l with
  | nil => intro l2 e Q; rfl
  | cons y l ih =>
    intro l2 e Q
    show (sq_step T F tc mc G L e y.1 y.2 Q).bind (fun Q' => sq_run T F tc mc G L (e + 1) (l ++ l2) Q') = ((sq_step T F tc mc G L e y.1 y.2 Q).bind (fun Q' => sq_run T F tc mc G L (e + 1) l Q')).bind _
    cases sq_step T F tc mc G L e y.1 y.2 Q with
    | none => rfl
    | some Q1 =>
      show sq_run T F tc mc G L (e + 1) (l ++ l2) Q1 = (sq_run T F tc mc G L (e + 1) l Q1).bind _
      rw [ih, List.length_cons, show e + 1 + l.length = e + (l.length + 1) by omega]
/-- the state before the next instruction -/
theorem sq_run_next {l : List (Nat × sIn)} {e j : Nat} {y : Nat × sIn} (hy : l[j]? = some y) : sq_run T F tc mc G L e (l.take (j + 1)) Q = (sq_run T F tc mc G L e (l.take j) Q).bind (sq_step T F tc mc G L (e + j) y.1 y.2) := by
  have hj := yl_lt hy
  rw [List.take_add_one, hy, show ((some y).toList) = [y] from rfl, sq_run_app, List.length_take, show min j l.length = j by omega]
  congr 1
  funext Q1
  show (sq_step T F tc mc G L (e + j) y.1 y.2 Q1).bind (fun Q' => some Q') = _
  cases sq_step T F tc mc G L (e + j) y.1 y.2 Q1 <;> rfl
/-- before an instruction a block is open; before an 0x05 one of an 0x04 -/
theorem sM_at : ∀ {l : List (Nat × sIn)} {e d p q : Nat} {st : List Bool} {Q : List sFr}, yp_code B lim d st p = .inl (l, q) → sM st Q → ∀ (j : Nat) y Qj, l[j]? = some y → sq_run T F tc mc G L e (l.take j) Q = some Qj → ¬ Qj = [] ∧ (y.2.1 = 5 → ∀ f r, Qj = f :: r → f.2.1 = 4) := by
  intro l
  induction l with
  | nil => intro e d p q st Q _ _ j y Qj hy; simp at hy
  | cons x l ih =>
    intro e d p q st Q hc hM j y Qj hy hr
    obtain ⟨d', b, st0, st', q1, -, e2, -, e4, e5, e6⟩ := yp_codeI hc
    have hQ : ¬ Q = [] := fun y => by
      have := (sM_len hM).mpr y
      rw [this] at e2; cases e2
    rw [e2] at hM
    cases j with
    | zero =>
      cases hy
      cases hr
      refine ⟨hQ, fun h5 f r hq => ?_⟩
      subst hq
      have hb : b = true := by
        cases b with
        | true => rfl
        | false =>
          unfold yn_next at e5
          rw [if_neg (by omega), if_pos h5] at e5
          cases e5
      exact hM.1 hb
    | succ j =>
      obtain ⟨Q1, h1, h2⟩ := Option.bind_eq_some_iff.mp (show (sq_step T F tc mc G L e x.1 x.2 Q).bind (fun Q' => sq_run T F tc mc G L (e + 1) (l.take j) Q') = some Qj from hr)
      exact ih e6 (sM_step hQ h1 e5 hM).1 j y Qj hy h2
/-- where an open block was opened -/
theorem sq_opened {l : List (Nat × sIn)} {e sz t : Nat} (hat : ∀ (j : Nat) y Qj, l[j]? = some y → sq_run T F tc mc G L e (l.take j) (sq_0 sz t) = some Qj → ¬ Qj = [] ∧ (y.2.1 = 5 → ∀ f r, Qj = f :: r → f.2.1 = 4)) : ∀ (j : Nat) (Qj : List sFr), j ≤ l.length → sq_run T F tc mc G L e (l.take j) (sq_0 sz t) = some Qj → ∀ (d : Nat) f, Qj[d]? = some f → (d + 1 = Qj.length ∧ f.1 = (sz, 0) ∧ f.2.1 = 0 ∧ f.2.2.1 = .inr (lN t)) ∨ ∃ k0 x0, k0 < j ∧ l[k0]? = some x0 ∧ (x0.2.1 = 2 ∨ x0.2.1 = 3 ∨ x0.2.1 = 4) ∧ f.1 = (e + k0, x0.1) ∧ f.2.2.1 = x0.2.2.1 ∧ (f.2.1 = x0.2.1 ∨ f.2.1 = 5) ∧ ∃ st, sq_run T F tc mc G L e (l.take (k0 + 1)) (sq_0 sz t) = some (((e + k0, x0.1), x0.2.1, x0.2.2.1, false, st) :: Qj.drop (d + 1)) := by
  intro j
  induction j with
  | zero =>
    intro Qj _ hr d f hd
    cases hr
    cases d with
    | zero => cases hd; exact Or.inl ⟨rfl, rfl, rfl, rfl⟩
    | succ d => simp [sq_0] at hd
  | succ j ih =>
    intro Qn hj hr d f hd
    obtain ⟨y, hy⟩ := yl_get (l := l) (k := j) (by omega)
    rw [sq_run_next hy] at hr
    obtain ⟨Qj, h1, h2⟩ := Option.bind_eq_some_iff.mp hr
    have old : ∀ (d0 : Nat) f0, Qj[d0]? = some f0 → f.1 = f0.1 → f.2.2.1 = f0.2.2.1 → (f.2.1 = f0.2.1 ∨ (f.2.1 = 5 ∧ ¬ d0 + 1 = Qj.length)) → Qj.drop (d0 + 1) = Qn.drop (d + 1) → (d0 + 1 = Qj.length ↔ d + 1 = Qn.length) → (d + 1 = Qn.length ∧ f.1 = (sz, 0) ∧ f.2.1 = 0 ∧ f.2.2.1 = .inr (lN t)) ∨ ∃ k0 x0, k0 < j + 1 ∧ l[k0]? = some x0 ∧ (x0.2.1 = 2 ∨ x0.2.1 = 3 ∨ x0.2.1 = 4) ∧ f.1 = (e + k0, x0.1) ∧ f.2.2.1 = x0.2.2.1 ∧ (f.2.1 = x0.2.1 ∨ f.2.1 = 5) ∧ ∃ st, sq_run T F tc mc G L e (l.take (k0 + 1)) (sq_0 sz t) = some (((e + k0, x0.1), x0.2.1, x0.2.2.1, false, st) :: Qn.drop (d + 1)) := fun d0 f0 g1 g2 g3 g4 g5 g6 => by
      rcases ih Qj (by omega) h1 d0 f0 g1 with ⟨a1, a2, a3, a4⟩ | ⟨k0, x0, a1, a2, a3, a4, a5, a6, a7⟩
      · refine Or.inl ⟨g6.mp a1, g2.trans a2, ?_, g3.trans a4⟩
        rcases g4 with t1 | ⟨t1, t2⟩
        · exact t1.trans a3
        · exact absurd a1 t2
      · refine Or.inr ⟨k0, x0, by omega, a2, a3, g2.trans a4, g3.trans a5, ?_, by rw [← g5]; exact a7⟩
        rcases g4 with t1 | ⟨t1, t2⟩
        · rcases a6 with t3 | t3
          · exact Or.inl (t1.trans t3)
          · exact Or.inr (t1.trans t3)
        · exact Or.inr t1
    obtain ⟨hne, h5⟩ := hat j y Qj hy h1
    cases Qj with
    | nil => exact absurd rfl hne
    | cons f0 r =>
      obtain ⟨s1, s2, s3, s4⟩ := sq_stepS h2
      have lc : ∀ {a : sFr} {b : List sFr}, (a :: b).length = b.length + 1 := List.length_cons
      by_cases zb : y.2.1 = 2 ∨ y.2.1 = 3 ∨ y.2.1 = 4
      · obtain ⟨f0', st, e1, e2⟩ := s1 zb
        cases d with
        | zero =>
          rw [e1] at hd
          cases hd
          refine Or.inr ⟨j, y, by omega, hy, zb, rfl, rfl, Or.inl rfl, st, ?_⟩
          rw [sq_run_next hy, h1]
          show sq_step T F tc mc G L (e + j) y.1 y.2 (f0 :: r) = _
          rw [h2, e1]; rfl
        | succ d =>
          cases d with
          | zero =>
            rw [e1] at hd
            cases hd
            exact old 0 f0 rfl e2.1 e2.2.2 (Or.inl e2.2.1) (by rw [e1]; rfl) (by rw [e1, lc, lc, lc]; omega)
          | succ d =>
            rw [e1] at hd
            exact old (d + 1) f hd rfl rfl (Or.inl rfl) (by rw [e1]; rfl) (by rw [e1, lc, lc, lc]; omega)
      · by_cases z5 : y.2.1 = 5
        · obtain ⟨st, e1⟩ := s2 z5
          have h4 := h5 z5 f0 r rfl
          cases d with
          | zero =>
            rw [e1] at hd
            cases hd
            rcases ih (f0 :: r) (by omega) h1 0 f0 rfl with ⟨a1, a2, a3, a4⟩ | ⟨k0, x0, a1, a2, a3, a4, a5, a6, a7⟩
            · rw [h4] at a3; cases a3
            · exact Or.inr ⟨k0, x0, by omega, a2, a3, a4, a5, Or.inr rfl, by rw [e1]; exact a7⟩
          | succ d =>
            rw [e1] at hd
            exact old (d + 1) f hd rfl rfl (Or.inl rfl) (by rw [e1]; rfl) (by rw [e1, lc, lc])
        · by_cases z11 : y.2.1 = 11
          · rcases s3 z11 with ⟨a1, a2⟩ | ⟨a, a', r1, a1, a2, a3⟩
            · rw [a1] at hd; simp at hd
            · rw [a2] at hd
              cases d with
              | zero =>
                cases hd
                exact old 1 a (by rw [a1]; rfl) a3.1 a3.2.2 (Or.inl a3.2.1) (by rw [a1, a2]; rfl) (by rw [a1, a2, lc, lc, lc]; omega)
              | succ d => exact old (d + 2) f (by rw [a1]; exact hd) rfl rfl (Or.inl rfl) (by rw [a1, a2]; rfl) (by rw [a1, a2, lc, lc, lc]; omega)
          · obtain ⟨f0', e1, e2⟩ := s4 (by omega)
            rw [e1] at hd
            cases d with
            | zero =>
              cases hd
              exact old 0 f0 rfl e2.1 e2.2.2 (Or.inl e2.2.1) (by rw [e1]; rfl) (by rw [e1, lc, lc])
            | succ d => exact old (d + 1) f hd rfl rfl (Or.inl rfl) (by rw [e1]; rfl) (by rw [e1, lc, lc])
end
