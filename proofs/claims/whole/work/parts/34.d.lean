section
variable {α β γ δ σ τ : Type} {B : Nat → Int32} {u v w u' v' : xk_St} {T : List (Nat × List Nat × List Nat)} {F : List Nat} {G : List (Nat × Nat × Nat × Int64)} {L : List Nat} {n fu tc mc lim p q len f D k tn tn' j : Nat} {Q Q' Q1 Qn : List sFr} {z : Nat → Nat} {LL : Nat → List Nat} {AA : Nat → sBo} {tt : Nat → Nat} {a : sBo} {H H' : rH} {fs r : List rFr} {x x' : rFr} {y : Nat × sIn}
/-- ways above those of a call don't touch it -/
theorem rW_hi {wb hb : Nat} (h : rW T z AA f Q wb hb v) (h20 : v'.2.2.1 20 = v.2.2.1 20) (hl : ∀ i, i < wb + Q.length → v'.2.2.1 33 i = v.2.2.1 33 i ∧ v'.2.2.1 34 i = v.2.2.1 34 i ∧ v'.2.2.1 35 i = v.2.2.1 35 i ∧ v'.2.2.1 36 i = v.2.2.1 36 i) : rW T z AA f Q wb hb v' := by
  intro d f0 hd
  have := yl_lt hd
  obtain ⟨b1, b2, b3, b4⟩ := hl (wb + (Q.length - 1 - d)) (by omega)
  rw [b1, b2, b3, b4, h20]
  exact h d f0 hd
theorem RF_hi : ∀ {fs : List rFr}, RF T F z LL AA u v fs → v'.2.2.1 20 = v.2.2.1 20 → v'.2.2.1 30 = v.2.2.1 30 → v'.2.2.1 31 = v.2.2.1 31 → v'.2.2.1 32 = v.2.2.1 32 → (∀ i, i < fV fs → v'.2.2.1 33 i = v.2.2.1 33 i ∧ v'.2.2.1 34 i = v.2.2.1 34 i ∧ v'.2.2.1 35 i = v.2.2.1 35 i ∧ v'.2.2.1 36 i = v.2.2.1 36 i) → RF T F z LL AA u v' fs := by
  intro fs
  induction fs with
  | nil => intro _ _ _ _ _ _; exact trivial
  | cons x r ih =>
    intro h h20 h30 h31 h32 hl
    have hle : fV (x :: r) = fV r + x.2.2.length := rfl
    refine ⟨?_, ih h.2 h20 h30 h31 h32 fun i hi => hl i (by omega)⟩
    obtain ⟨a1, a2, a3, a4, a5, a6, a7⟩ := h.1
    rw [h30, h31, h32]
    exact ⟨a1, a2, a3, a4, rW_hi a5 h20 fun i hi => hl i (by omega), a6, a7⟩
theorem fV_le : ∀ {fs : List rFr}, RF T F z LL AA u v fs → fV fs ≤ 100 * fs.length := by
  intro fs
  induction fs with
  | nil => intro _; exact Nat.le_refl _
  | cons x r ih =>
    intro h
    have h1 := ih h.2
    have h2 : x.2.2.length ≤ 100 := h.1.2.2.2.2.2.1.2.2.2.2.1
    show fV r + x.2.2.length ≤ 100 * (r.length + 1)
    omega
theorem fN_le (hs : rSt D B len T F tc mc G z LL AA tt u v) : ∀ {fs : List rFr}, RF T F z LL AA u v fs → fN LL fs ≤ 300 * fs.length := by
  intro fs
  induction fs with
  | nil => intro _; exact Nat.le_refl _
  | cons x r ih =>
    intro h
    have h1 := ih h.2
    have h2 : sq_h x.2.2 ≤ 100 := h.1.2.2.2.2.2.1.2.2.2.1
    obtain ⟨⟨c, hc⟩, -⟩ := hs.2.2.2.2.2.2.2 x.1 h.1.2.2.2.2.2.1.1
    have h3 : (LL x.1).length ≤ 200 := hc.2.2.2.2.2.2.2.2.2.1.1
    show fN LL r + (LL x.1).length + sq_h x.2.2 ≤ 300 * (r.length + 1)
    omega
/-- another instruction of the same call comes -/
theorem rx_jump (h : RX D B len T F tc mc G z LL AA tt H (x :: r) tn u v) (hx : x'.1 = x.1) (hu : yf_fr [23, 26, 27, 28] [] [37] [10] u u') (hv : yf_fr [4, 6, 8, 9, 10, 11, 23, 26, 28, 29] [0, 1, 2] [29, 33, 34, 35, 36] [3] v v') (hlow : ∀ i, i < fV r → v'.2.2.1 33 i = v.2.2.1 33 i ∧ v'.2.2.1 34 i = v.2.2.1 34 i ∧ v'.2.2.1 35 i = v.2.2.1 35 i ∧ v'.2.2.1 36 i = v.2.2.1 36 i) (hst : sSt T F tc mc G (LL x.1) (z x.1) (tt x.1) (AA x.1) x'.2.1 x'.2.2) (hj : x'.2.1 ≤ (AA x.1).2.2.length) (hne : ¬ x'.2.2 = []) (hnd : ∀ (d : Nat) f0, x'.2.2[d]? = some f0 → f0.2.2.2.1 = false) (hW : rW T z AA x.1 x'.2.2 (fV r) (fN LL r + (LL x.1).length) v') (hRS : RS T H (fW LL (x' :: r)) u' v') (h28 : v'.1 28 = nI (fV (x' :: r))) (htn : u'.1 23 = nI tn' ∧ v'.2.1 2 = lN tn' ∧ tn' < 2 ^ 31) (h0 : u'.1 27 = 0 ∧ v'.1 29 = 0 ∧ v'.1 6 = 0) (hp : u'.1 26 = nI (sEn' (z x.1) (AA x.1) x'.2.1) ∧ v'.1 4 = nI (pq (AA x.1) x'.2.1)) : RX D B len T F tc mc G z LL AA tt H (x' :: r) tn' u' v' := by
  obtain ⟨h1, h2, h3, h4, h5, h6, h7, h8, h9⟩ := h
  obtain ⟨t1, t2, t3, t4⟩ := h9 x r rfl
  have hq : sQb T x'.2.2 := by
    obtain ⟨-, -, r2, -, -, -, -, -, -, b7⟩ := h1.2.2.2.2.2.2.2 x.1 h3.1.2.2.2.2.2.1.1
    exact b7 _ _ hj hst
  have hF1 := RF_fu (v := v) hu (by decide) h3
  have hF2 : RF T F z LL AA u' v' r := RF_hi hF1.2 (hv.2.2.1 20 (by decide)) (hv.2.2.1 30 (by decide)) (hv.2.2.1 31 (by decide)) (hv.2.2.1 32 (by decide)) hlow
  obtain ⟨a1, a2, a3, a4, a5, a6, a7⟩ := hF1.1
  refine ⟨rSt_fv (rSt_fu h1 hu (by decide)) hv (by decide), hRS, ⟨⟨by rw [hx]; exact a1, a2, by rw [hv.2.2.1 31 (by decide)]; exact a3, by rw [hv.2.2.1 32 (by decide)]; exact a4, by rw [hx]; exact hW, ⟨by rw [hx]; exact a6.1, hne, hnd, hq⟩, fun g r' e => ?_⟩, hF2⟩, ?_, RD_fv (RD_fu h5 hu (by decide)) hv (by decide), ⟨?_, ?_, h6.2.2.1, h28⟩, htn, ⟨h0.1, h0.2.1, h0.2.2, ?_⟩, fun g r' e => ?_⟩
  · rw [hv.2.2.1 30 (by decide)]
    exact a7 g r' e
  · cases r with
    | nil => exact trivial
    | cons x2 r2 => exact ⟨by rw [hx]; exact h4.1, h4.2⟩
  · rw [hu.1 24 (by decide)]; exact h6.1
  · rw [hv.1 27 (by decide)]; exact h6.2.1
  · rw [hv.1 5 (by decide)]; exact h8.2.2.2
  · cases e
    rw [hx]
    exact ⟨hp.1, by rw [hu.1 25 (by decide)]; exact t2, hp.2, hst⟩
/-- the first 0x05 or 0x0b of an open block -/
theorem sq_close1 : ∀ {l : List (Nat × sIn)} {e : Nat} {Q : List sFr}, sq_run T F tc mc G L e l Q = some [] → ∀ (d : Nat) f, Q[d]? = some f → ∃ je x f', l[je]? = some x ∧ (x.2.1 = 11 ∨ x.2.1 = 5) ∧ sq_run T F tc mc G L e (l.take je) Q = some (f' :: Q.drop (d + 1)) ∧ f'.1 = f.1 ∧ f'.2.2.1 = f.2.2.1 ∧ f'.2.1 = f.2.1 := by
  intro l
  induction l with
  | nil =>
    intro e Q hr d f hd
    cases hr
    simp at hd
  | cons y l ih =>
    intro e Q hr d f hd
    obtain ⟨Q1, h1, h2⟩ := Option.bind_eq_some_iff.mp (show (sq_step T F tc mc G L e y.1 y.2 Q).bind (fun Q' => sq_run T F tc mc G L (e + 1) l Q') = some [] from hr)
    have back : ∀ (d1 : Nat) f1, Q1[d1]? = some f1 → f1.1 = f.1 → f1.2.2.1 = f.2.2.1 → f1.2.1 = f.2.1 → Q1.drop (d1 + 1) = Q.drop (d + 1) → ∃ je x f', (y :: l)[je]? = some x ∧ (x.2.1 = 11 ∨ x.2.1 = 5) ∧ sq_run T F tc mc G L e ((y :: l).take je) Q = some (f' :: Q.drop (d + 1)) ∧ f'.1 = f.1 ∧ f'.2.2.1 = f.2.2.1 ∧ f'.2.1 = f.2.1 := fun d1 f1 g1 g2 g3 g4 g5 => by
      obtain ⟨je, x, f', k1, k2, k3, k4, k5, k6⟩ := ih h2 d1 f1 g1
      refine ⟨je + 1, x, f', k1, k2, ?_, k4.trans g2, k5.trans g3, k6.trans g4⟩
      show (sq_step T F tc mc G L e y.1 y.2 Q).bind (fun Q' => sq_run T F tc mc G L (e + 1) (l.take je) Q') = _
      rw [h1, ← g5]
      exact k3
    cases Q with
    | nil => simp at hd
    | cons f0 r =>
      obtain ⟨s1, s2, s3, s4⟩ := sq_stepS h1
      by_cases zb : y.2.1 = 2 ∨ y.2.1 = 3 ∨ y.2.1 = 4
      · obtain ⟨f0', st, e1, e2⟩ := s1 zb
        cases d with
        | zero =>
          cases hd
          exact back 1 f0' (by rw [e1]; rfl) e2.1 e2.2.2 e2.2.1 (by rw [e1]; rfl)
        | succ d =>
          exact back (d + 2) f (by rw [e1]; exact hd) rfl rfl rfl (by rw [e1]; rfl)
      · by_cases z5 : y.2.1 = 5
        · cases d with
          | zero =>
            cases hd
            exact ⟨0, y, f, rfl, Or.inr z5, rfl, rfl, rfl, rfl⟩
          | succ d =>
            obtain ⟨st, e1⟩ := s2 z5
            exact back (d + 1) f (by rw [e1]; exact hd) rfl rfl rfl (by rw [e1]; rfl)
        · by_cases z11 : y.2.1 = 11
          · cases d with
            | zero =>
              cases hd
              exact ⟨0, y, f, rfl, Or.inl z11, rfl, rfl, rfl, rfl⟩
            | succ d =>
              have hd : r[d]? = some f := hd
              rcases s3 z11 with ⟨a1, a2⟩ | ⟨a, a', r1, a1, a2, a3⟩
              · rw [a2] at hd; simp at hd
              · rw [a1] at hd
                cases d with
                | zero =>
                  cases hd
                  exact back 0 a' (by rw [a2]; rfl) a3.1 a3.2.2 a3.2.1 (by rw [a2, a1]; rfl)
                | succ d => exact back (d + 1) f (by rw [a2]; exact hd) rfl rfl rfl (by rw [a2, a1]; rfl)
          · obtain ⟨f0', e1, e2⟩ := s4 (by omega)
            cases d with
            | zero =>
              cases hd
              exact back 0 f0' (by rw [e1]; rfl) e2.1 e2.2.2 e2.2.1 (by rw [e1]; rfl)
            | succ d => exact back (d + 1) f (by rw [e1]; exact hd) rfl rfl rfl (by rw [e1]; rfl)
end
