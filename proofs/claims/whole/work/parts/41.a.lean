section
variable {α β γ δ σ τ : Type} {B : Nat → Int32} {u v w u' v' u0 v0 : xk_St} {T : List (Nat × List Nat × List Nat)} {F : List Nat} {G : List (Nat × Nat × Nat × Int64)} {L W0 : List Nat} {n fu tc mc lim p q len f D k tn tn' j d b g m i : Nat} {z : Nat → Nat} {LL : Nat → List Nat} {AA : Nat → sBo} {tt : Nat → Nat} {H H' : rH} {fs r rr : List rFr} {x x' : rFr} {c : Nat × List Nat × List Nat} {y : Nat × sIn} {Q Qn Q1 : List sFr} {P : List rFr → Nat → Prop} {R : List Nat}
/-- which instructions there are -/
def op_B (o : Nat) : Bool := (xt_S o == 45) || (xt_S o == 33) || (decide (o < 6)) || (decide (11 ≤ o) && decide (o ≤ 17)) || o == 26 || o == 27 || (decide (32 ≤ o) && decide (o ≤ 36)) || (decide (40 ≤ o) && decide (o < 210)) || (decide (211 ≤ o) && decide (o < 215)) || decide (256 ≤ o)
theorem op_all : ∀ o, o < 287 → op_B o = true := by decide +kernel
theorem op_is {o : Nat} (h : o < 287) (n1 : ¬ xt_S o = 45) (n2 : ¬ xt_S o = 33) : o < 6 ∨ (11 ≤ o ∧ o ≤ 17) ∨ o = 26 ∨ o = 27 ∨ (32 ≤ o ∧ o ≤ 36) ∨ (40 ≤ o ∧ o < 210) ∨ (211 ≤ o ∧ o < 215) ∨ 256 ≤ o := by
  have h := op_all o h
  unfold op_B at h
  rw [Bool.or_eq_true, Bool.or_eq_true, Bool.or_eq_true, Bool.or_eq_true, Bool.or_eq_true, Bool.or_eq_true, Bool.or_eq_true, Bool.or_eq_true, Bool.or_eq_true, Bool.and_eq_true, Bool.and_eq_true, Bool.and_eq_true, Bool.and_eq_true, beq_iff_eq, beq_iff_eq, beq_iff_eq, beq_iff_eq] at h
  rw [decide_eq_true_eq, decide_eq_true_eq, decide_eq_true_eq, decide_eq_true_eq, decide_eq_true_eq, decide_eq_true_eq, decide_eq_true_eq, decide_eq_true_eq, decide_eq_true_eq, decide_eq_true_eq] at h
  rcases h with ((((((((h | h) | h) | h) | h) | h) | h) | h) | h) | h
  · exact absurd h n1
  · exact absurd h n2
  · exact Or.inl h
  · exact Or.inr (Or.inl h)
  · exact Or.inr (Or.inr (Or.inl h))
  · exact Or.inr (Or.inr (Or.inr (Or.inl h)))
  · exact Or.inr (Or.inr (Or.inr (Or.inr (Or.inl h))))
  · exact Or.inr (Or.inr (Or.inr (Or.inr (Or.inr (Or.inl h)))))
  · exact Or.inr (Or.inr (Or.inr (Or.inr (Or.inr (Or.inr (Or.inl h))))))
  · exact Or.inr (Or.inr (Or.inr (Or.inr (Or.inr (Or.inr (Or.inr h))))))
/-- one instruction, whichever it is -/
theorem ri_all {P : Nat → List rFr → Nat → Prop} (hfu : 18000 < fu) (h : rFt D B len T F tc mc G z LL AA tt H x r tn y Qn u v w) (hP : rPs (P 0) x r tn) (hPc : ∀ g Qa tn', g < F.length → tn = tn' + 1 → P (AA g).2.1.length ((g, 0, sq_0 (z g) (tt g)) :: (x.1, x.2.1 + 1, Qa) :: r) tn') (hR : ∀ c, r = [] → T[tt x.1]? = some c → R = c.2.2) : RZc fu D B len T F tc mc G z LL AA tt P R (fm_Machine_step fu (u.2.2.1 7 (kF z AA x)) (nI (kF z AA x)) (uF z AA x u)) (mr_st fu w) := by
  have hg := h.2.1.2.2.2.2.2.2.1
  rcases op_is hg.1 hg.2.1 hg.2.2.1 with q | q | q | q | q | q | q | q
  · have : y.2.1 = 0 ∨ y.2.1 = 1 ∨ (y.2.1 = 2 ∨ y.2.1 = 3) ∨ y.2.1 = 4 ∨ y.2.1 = 5 := by
      have : y.2.1 < 6 := q
      omega
    rcases this with t | t | t | t | t
    · exact rz_c (ri_0 h t)
    · exact rz_c (ri_1 h t hP)
    · exact rz_c (ri_2 h t hP)
    · exact rz_c (ri_4 h t hP)
    · exact rz_c (ri_5 h t hP)
  · have : y.2.1 = 11 ∨ y.2.1 = 12 ∨ y.2.1 = 13 ∨ y.2.1 = 14 ∨ y.2.1 = 15 ∨ y.2.1 = 16 ∨ y.2.1 = 17 := by
      have := q.1
      have := q.2
      omega
    rcases this with t | t | t | t | t | t | t
    · exact rz_c (ri_11 hfu h t hP hR)
    · exact rz_c (ri_12 hfu h t hP hR)
    · exact rz_c (ri_13 hfu h t hP hR)
    · exact rz_c (ri_14 hfu h t hP hR)
    · exact rz_c (ri_15 hfu h t hP hR)
    · exact ri_16 hfu h t hPc
    · exact ri_17 hfu h t hPc
  · exact rz_c (ri_26 h q hP)
  · exact rz_c (ri_27 h q hP)
  · by_cases t : y.2.1 < 35
    · exact rz_c (ri_32 h ⟨q.1, t⟩ hP)
    · exact rz_c (ri_35 h (by have := q.2; omega) hP)
  · by_cases t1 : y.2.1 < 54
    · exact rz_c (ri_40 hfu h ⟨q.1, t1⟩ hP)
    · by_cases t2 : y.2.1 < 63
      · exact rz_c (ri_54 hfu h ⟨by omega, t2⟩ hP)
      · by_cases t3 : y.2.1 < 65
        · exact rz_c (ri_63 h (by omega) hP)
        · by_cases t4 : y.2.1 < 67
          · exact rz_c (ri_const h (by omega) hP)
          · by_cases t5 : y.2.1 < 208
            · exact rz_c (ri_num hfu h ⟨by omega, t5⟩ hP)
            · by_cases t6 : y.2.1 = 208
              · exact rz_c (ri_208 h t6 hP)
              · exact rz_c (ri_209 h (by have := q.2; omega) hP)
  · have : y.2.1 = 211 ∨ y.2.1 = 212 ∨ y.2.1 = 213 ∨ y.2.1 = 214 := by
      have := q.1
      have := q.2
      omega
    rcases this with t | t | t | t
    · exact rz_c (ri_211 h t hP)
    · exact rz_c (ri_212 h t hP)
    · exact rz_c (ri_213 hfu h t hP hR)
    · exact rz_c (ri_214 hfu h t hP hR)
  · exact rz_c (ri_obj hfu h q hP)
/-- how much a run can still do -/
def fP (AA : Nat → sBo) : List rFr → Nat → Nat
  | [], tn => 8192 * tn
  | x :: r, tn => ((AA x.1).2.2.length - x.2.1) + fP AA r tn
def bt : List rFr → Option Nat
  | [] => none
  | [x] => some x.1
  | _ :: y :: r => bt (y :: r)
theorem fP_tn : ∀ {fs : List rFr}, fP AA fs (tn + 1) = fP AA fs tn + 8192 := by
  intro fs
  induction fs with
  | nil => show 8192 * (tn + 1) = 8192 * tn + 8192; omega
  | cons x r ih => show _ + fP AA r (tn + 1) = _ + fP AA r tn + 8192; rw [ih]; omega
theorem bt_c {a b : rFr} (h : a.1 = b.1) : bt (a :: r) = bt (b :: r) := by
  cases r with
  | nil => show some a.1 = some b.1; rw [h]
  | cons y r => rfl
theorem bt_s {a : rFr} (h : ¬ r = []) : bt (a :: r) = bt r := by
  cases r with
  | nil => exact absurd rfl h
  | cons y r => rfl
/-- what is left at the end of a run: a trap, or results -/
def rEn (D : Nat) (B : Nat → Int32) (len : Nat) (T : List (Nat × List Nat × List Nat)) (F : List Nat) (tc mc : Nat) (G : List (Nat × Nat × Nat × Int64)) (z : Nat → Nat) (LL : Nat → List Nat) (AA : Nat → sBo) (tt : Nat → Nat) (R : List Nat) (u v : xk_St) : Prop := ∃ H tn, RL D B len T F tc mc G z LL AA tt H tn u v ∧ ((∃ t, 0 < t ∧ t < 20 ∧ u.1 27 = nI t ∧ v.1 29 = nI t) ∨ (u.1 27 = 0 ∧ v.1 29 = 0 ∧ u.1 24 = 0 ∧ v.1 27 = 0 ∧ RS T H R u v))
theorem rn_h {t b : Nat} (ht : 0 < t ∧ t < 20) (h : u.1 27 = nI t) : jb_Machine_run_29 fu (n + 1) (lN b) u = some (u.1 27, u) := by
  unfold jb_Machine_run_29
  simp only [xs_let]
  by_cases c : lN b ≤ 0
  · rw [if_pos c]
  · rw [if_neg c, if_neg (by rw [h]; exact fun q => by have := (nI_eq (b := 0) (by omega) (by decide)).mp q; omega)]
theorem rn_h0 {b : Nat} (h : u.1 27 = 0) (h4 : u.1 24 = 0) : jb_Machine_run_29 fu (n + 1) (lN b) u = some (u.1 27, u) := by
  unfold jb_Machine_run_29
  simp only [xs_let]
  by_cases c : lN b ≤ 0
  · rw [if_pos c]
  · rw [if_neg c, if_pos h, h4, if_pos (by decide)]
theorem rn_m {t : Nat} (ht : 0 < t ∧ t < 20) (h : v.1 29 = nI t) : jb_Model_run_34 fu (n + 1) v = jb_Model_run_149 fu v := by
  unfold jb_Model_run_34
  simp only [xs_let]
  by_cases c : v.1 27 ≤ 0
  · rw [if_pos c]
  · rw [if_neg c, if_neg (by rw [h]; exact fun q => by have := (nI_eq (b := 0) (by omega) (by decide)).mp q; omega)]
theorem rn_m0 (h : v.1 27 = 0) : jb_Model_run_34 fu (n + 1) v = jb_Model_run_149 fu v := by
  unfold jb_Model_run_34
  simp only [xs_let]
  rw [if_pos (by rw [h]; decide)]
/-- the two loops together -/
theorem rn_loop {f0 : Nat} (hfu : 18000 < fu) (hR : ∀ c, T[tt f0]? = some c → R = c.2.2) : ∀ (N : Nat) (H : rH) (fs : List rFr) (tn n m b : Nat) (u v : xk_St), fP AA fs tn ≤ N → N < n → N < m → N < b → b < 2 ^ 62 → RX D B len T F tc mc G z LL AA tt H fs tn u v → bt fs = some f0 → ∃ u' v', jb_Machine_run_29 fu n (lN b) u = some (u'.1 27, u') ∧ jb_Model_run_34 fu m v = jb_Model_run_149 fu v' ∧ rEn D B len T F tc mc G z LL AA tt R u' v' := by
  intro N
  induction N using Nat.strongRecOn with
  | ind N ih =>
    intro H fs tn n m b u v hN hn hm hb hb2 hX hbt
    cases fs with
    | nil => cases hbt
    | cons x r =>
      obtain ⟨y, Qn, hat⟩ := rx_at hX
      have hyl := yl_lt hat.1
      have hfp : fP AA (x :: r) tn = ((AA x.1).2.2.length - x.2.1) + fP AA r tn := rfl
      have hlen : ∀ g, g < F.length → (AA g).2.1.length + (AA g).2.2.length < 8192 := fun g hg => by
        obtain ⟨⟨c, hc⟩, -⟩ := hX.1.2.2.2.2.2.2.2 g hg
        have : sEnd (z g) (AA g) ≤ 8192 := hc.2.2.2.2.2.1
        have e : sEnd (z g) (AA g) = z g + 1 + (AA g).2.1.length + (AA g).2.2.length := rfl
        omega
      have hxF : x.1 < F.length := hX.2.2.1.1.2.2.2.2.2.1.1
      have hxl := hlen x.1 hxF
      obtain ⟨n, rfl⟩ : ∃ n', n = n' + 1 := ⟨n - 1, by omega⟩
      obtain ⟨m, rfl⟩ : ∃ m', m = m' + 1 := ⟨m - 1, by omega⟩
      obtain ⟨b, rfl⟩ : ∃ b', b = b' + 1 := ⟨b - 1, by omega⟩
      have hk : sEn' (z x.1) (AA x.1) x.2.1 < 8192 := hat.2.2.2.2.2.2.2.1
      obtain ⟨w, e2, w1, w2, w3, w4, w5, w6⟩ := mx_fetch (fu := fu) (n := m) (by omega) hX hat
      have e1 := hx_fetch (fu := fu) (n := n) hX hk (show b + 1 < 2 ^ 63 by omega)
      have hft : rFt D B len T F tc mc G z LL AA tt H x r tn y Qn u v w := ⟨hX, hat, w1, w2, w3, w4, w5, w6⟩
      have hstep := ri_all (P := fun k fs tn' => fP AA fs tn' + 1 + k ≤ N ∧ bt fs = some f0) (R := R) hfu hft ⟨fun x2 r2 Qn2 hr => ⟨by
          subst hr
          have a1 : fP AA (x2 :: r2) tn = ((AA x2.1).2.2.length - x2.2.1) + fP AA r2 tn := rfl
          have a2 : fP AA ((x2.1, x2.2.1, Qn2) :: r2) tn = ((AA x2.1).2.2.length - x2.2.1) + fP AA r2 tn := rfl
          omega, by
          subst hr
          rw [← hbt]
          exact (bt_c (a := (x2.1, x2.2.1, Qn2)) (b := x2) rfl)⟩, fun j' Q' hj => ⟨by
          have a2 : fP AA ((x.1, j', Q') :: r) tn = ((AA x.1).2.2.length - j') + fP AA r tn := rfl
          omega, by rw [← hbt]; exact bt_c rfl⟩, fun j' Q' tn' ht => ⟨by
          subst ht
          have a2 : fP AA ((x.1, j', Q') :: r) tn' = ((AA x.1).2.2.length - j') + fP AA r tn' := rfl
          have a3 := fP_tn (AA := AA) (tn := tn') (fs := r)
          omega, by rw [← hbt]; exact bt_c rfl⟩⟩ (fun g Qa tn' hg ht => ⟨by
          subst ht
          have a2 : fP AA ((g, 0, sq_0 (z g) (tt g)) :: (x.1, x.2.1 + 1, Qa) :: r) tn' = ((AA g).2.2.length - 0) + (((AA x.1).2.2.length - (x.2.1 + 1)) + fP AA r tn') := rfl
          have a3 := fP_tn (AA := AA) (tn := tn') (fs := r)
          have := hlen g hg
          omega, by rw [← hbt]; exact (bt_c (a := (x.1, x.2.1 + 1, Qa)) (b := x) rfl)⟩) (fun c hr hc => by
          subst hr
          have : some x.1 = some f0 := hbt
          cases this
          exact hR c hc)
      obtain ⟨u8, v8, o1, o2, o3⟩ := hstep
      have e1' : jb_Machine_run_29 fu (n + 1) (lN (b + 1)) u = jb_Machine_run_29 fu n (lN b) u8 := by
        rw [e1]
        have o1' : fm_Machine_step fu (u.2.2.1 7 (sEn' (z x.1) (AA x.1) x.2.1)) (nI (sEn' (z x.1) (AA x.1) x.2.1)) (xs_I u 26 (nI (sEn' (z x.1) (AA x.1) x.2.1 + 1))) = some ((), u8) := o1
        rw [o1', ys_seq]
      have e2' : jb_Model_run_34 fu (m + 1) v = jb_Model_run_34 fu m v8 := by rw [e2, o2, ys_seq]
      rw [e1', e2']
      rcases o3 with ⟨H', fs', tn', k, ul, a1, a2, a3, a4⟩ | ⟨H', tn', t, t0, t1, t2, t3, t4⟩ | ⟨H', tn', t1, t2, t3, t4, t5, t6⟩
      · obtain ⟨n', rfl⟩ : ∃ n', n = n' + k := ⟨n - k, by omega⟩
        obtain ⟨b', rfl⟩ : ∃ b', b = b' + k := ⟨b - k, by omega⟩
        rw [a1 n' b' (by omega)]
        exact ih (N - 1 - k) (by omega) H' fs' tn' n' m b' ul v8 (by omega) (by omega) (by omega) (by omega) (by omega) a2 a4
      · obtain ⟨n, rfl⟩ : ∃ n', n = n' + 1 := ⟨n - 1, by omega⟩
        obtain ⟨m, rfl⟩ : ∃ m', m = m' + 1 := ⟨m - 1, by omega⟩
        exact ⟨u8, v8, rn_h ⟨t0, t1⟩ t2, rn_m ⟨t0, t1⟩ t3, H', tn', t4, Or.inl ⟨t, t0, t1, t2, t3⟩⟩
      · obtain ⟨n, rfl⟩ : ∃ n', n = n' + 1 := ⟨n - 1, by omega⟩
        obtain ⟨m, rfl⟩ : ∃ m', m = m' + 1 := ⟨m - 1, by omega⟩
        exact ⟨u8, v8, rn_h0 t1 t3, rn_m0 t4, H', tn', t6, Or.inr ⟨t1, t2, t3, t4, t5⟩⟩
end
