section
variable {α β γ δ σ τ : Type} {B : Nat → Int32} {u v w u' v' u0 v0 : xk_St} {T : List (Nat × List Nat × List Nat)} {F : List Nat} {G : List (Nat × Nat × Nat × Int64)} {L : List Nat} {n fu tc mc lim p q len f D k tn tn' j d b g m : Nat} {z : Nat → Nat} {LL : Nat → List Nat} {AA : Nat → sBo} {tt : Nat → Nat} {H H' : rH} {fs r rr : List rFr} {x x' : rFr} {c : Nat × List Nat × List Nat}
/-- both machines before a call: what is given lies on top -/
def RE (D : Nat) (B : Nat → Int32) (len : Nat) (T : List (Nat × List Nat × List Nat)) (F : List Nat) (tc mc : Nat) (G : List (Nat × Nat × Nat × Int64)) (z : Nat → Nat) (LL : Nat → List Nat) (AA : Nat → sBo) (tt : Nat → Nat) (H : rH) (rr : List rFr) (ps : List Nat) (tn : Nat) (u v : xk_St) : Prop :=
  rSt D B len T F tc mc G z LL AA tt u v ∧ RS T H (fW LL rr ++ ps) u v ∧ RF T F z LL AA u v rr ∧ rCh T F tc mc G z LL AA tt rr ∧ RD T F tc H G u v ∧ (u.1 24 = nI rr.length ∧ v.1 27 = nI rr.length ∧ rr.length ≤ 60 ∧ v.1 28 = nI (fV rr)) ∧ (u.1 23 = nI tn ∧ v.2.1 2 = lN tn ∧ tn < 2 ^ 31) ∧ (u.1 27 = 0 ∧ v.1 29 = 0 ∧ v.1 6 = 0 ∧ v.1 5 = nI len) ∧ ∀ y r', rr = y :: r' → u.1 26 = nI (sEn' (z y.1) (AA y.1) y.2.1)
theorem re_fr (h : RE D B len T F tc mc G z LL AA tt H rr L tn u v) {I J A C I' J' A' C' : List Nat} (hu : yf_fr I J A C u u') (hud : (yf_no [7, 10, 11, 12, 13, 29, 30, 32, 33, 34] I && yf_no [2, 3, 4, 5, 6, 7, 8, 9, 10, 11, 12, 13, 14, 16, 21, 22, 38, 39, 40, 41, 42, 43, 44, 46, 47] A && yf_no [2, 11, 12] C) = true) (hv : yf_fr I' J' A' C' v v') (hvd : (yf_no [3, 12, 13, 14, 15, 16, 17, 18, 24, 32, 34] I' && yf_no [1, 4, 5, 6, 7, 8, 9, 10, 12, 13, 14, 15, 20, 21, 27, 28, 37, 38, 39, 42] A' && yf_no [2, 5] C') = true) (ht : u'.1 23 = nI tn' ∧ v'.2.1 2 = lN tn' ∧ tn' < 2 ^ 31) : RL D B len T F tc mc G z LL AA tt H tn' u' v' := by
  have d1 := Bool.and_eq_true_iff.mp hud
  have d2 := Bool.and_eq_true_iff.mp d1.1
  have e1 := Bool.and_eq_true_iff.mp hvd
  have e2 := Bool.and_eq_true_iff.mp e1.1
  have no_sub : ∀ {K K' M : List Nat}, yf_no K M = true → (∀ k, k ∈ K' → k ∈ K) → yf_no K' M = true := fun h1 h2 => List.all_eq_true.mpr fun k hk => List.all_eq_true.mp h1 k (h2 k hk)
  refine ⟨?_, ?_, ht⟩
  · refine rSt_fv (rSt_fu h.1 hu ?_) hv ?_
    · exact Bool.and_eq_true_iff.mpr ⟨Bool.and_eq_true_iff.mpr ⟨no_sub d2.1 (by simp), no_sub d2.2 (by simp)⟩, no_sub d1.2 (by simp)⟩
    · exact Bool.and_eq_true_iff.mpr ⟨no_sub e2.1 (by simp), no_sub e2.2 (by simp)⟩
  · refine RD_fv (RD_fu h.2.2.2.2.1 hu ?_) hv ?_
    · exact Bool.and_eq_true_iff.mpr ⟨Bool.and_eq_true_iff.mpr ⟨no_sub d2.1 (by simp), no_sub d2.2 (by simp)⟩, no_sub d1.2 (by simp)⟩
    · exact Bool.and_eq_true_iff.mpr ⟨Bool.and_eq_true_iff.mpr ⟨no_sub e2.1 (by simp), no_sub e2.2 (by simp)⟩, no_sub e1.2 (by simp)⟩
theorem lD_mem : ∀ {ls : List (Nat × Nat)} {c : Nat}, c ∈ lD ls → ∃ (i : Nat) (p : Nat × Nat), ls[i]? = some p ∧ c = p.2 := by
  intro ls
  induction ls with
  | nil => intro c hc; cases hc
  | cons p ls ih =>
    intro c hc
    have e : lD (p :: ls) = List.replicate p.1 p.2 ++ lD ls := by unfold lD; rw [List.flatMap_cons]
    rw [e] at hc
    rcases List.mem_append.mp hc with y | y
    · exact ⟨0, p, rfl, List.eq_of_mem_replicate y⟩
    · obtain ⟨i, p', h1, h2⟩ := ih y
      exact ⟨i + 1, p', h1, h2⟩
/-- a function is entered, by the class -/
theorem hp_enter {t t' pc ll sz : Nat} (h23 : u.1 23 = nI (t + 1)) (ht : t + 1 < 2 ^ 31) (h24 : u.1 24 = nI d) (hd : d < 60) (h12 : u.2.2.1 12 g = nI t') (ht' : t' < 65) (hg : g < 65) (h3 : u.2.2.1 3 t' = nI pc) (h28 : u.1 28 = nI (b + pc)) (h14 : u.2.2.1 14 g = nI ll) (h13 : u.2.2.1 13 g = nI sz) : fm_Machine_enter (nI g) u = some ((), xs_I (xs_I (xs_I (xs_A (xs_A (xs_A (xs_I u 23 (nI t)) 48 d (nI g)) 49 d (nI b)) 50 d (u.1 26)) 25 (nI (b + ll))) 26 (nI (sz + 1))) 24 (nI (d + 1))) := by
  unfold fm_Machine_enter fm_Machine_spendTurn
  simp only [xs_let]
  have c0 : ¬ nI (t + 1) = (0 : Int32) := fun y => by have := (nI_eq (b := 0) ht (by decide)).mp y; omega
  have c60 : ¬ nI d = (60 : Int32) := fun y => by have := (nI_eq (b := 60) (by omega) (by decide)).mp y; omega
  have e24 : (xs_I u 23 (nI t)).1 24 = nI d := h24
  rw [h23, if_neg c0, ys_seq, if_neg (show ¬ (1 : Int32) = 0 by decide), nI_pred, e24, if_neg c60, if_neg (nI_in (N := 60) hd (by decide)), if_neg (nI_in (N := 65) hg (by decide)), show (nI d).toNatClampNeg = d from nI_clamp (by omega), show (nI g).toNatClampNeg = g from nI_clamp (by omega)]
  have e12 : (xs_A (xs_I u 23 (nI t)) 48 d (nI g)).2.2.1 12 g = nI t' := h12
  rw [e12, if_neg (nI_in (N := 65) ht' (by decide)), show (nI t').toNatClampNeg = t' from nI_clamp (by omega)]
  have f24 : (xs_A (xs_I u 23 (nI t)) 48 d (nI g)).1 24 = nI d := h24
  have f28 : (xs_A (xs_I u 23 (nI t)) 48 d (nI g)).1 28 = nI (b + pc) := h28
  have f3 : (xs_A (xs_I u 23 (nI t)) 48 d (nI g)).2.2.1 3 t' = nI pc := h3
  rw [f24, f28, f3, nI_subb, if_neg (nI_in (N := 60) hd (by decide)), show (nI d).toNatClampNeg = d from nI_clamp (by omega)]
  have g24 : (xs_A (xs_A (xs_I u 23 (nI t)) 48 d (nI g)) 49 d (nI b)).1 24 = nI d := h24
  have g26 : (xs_A (xs_A (xs_I u 23 (nI t)) 48 d (nI g)) 49 d (nI b)).1 26 = u.1 26 := rfl
  rw [g24, g26, if_neg (nI_in (N := 60) hd (by decide)), show (nI d).toNatClampNeg = d from nI_clamp (by omega)]
  have k24 : (xs_A (xs_A (xs_A (xs_I u 23 (nI t)) 48 d (nI g)) 49 d (nI b)) 50 d (u.1 26)).1 24 = nI d := h24
  have k49 : (xs_A (xs_A (xs_A (xs_I u 23 (nI t)) 48 d (nI g)) 49 d (nI b)) 50 d (u.1 26)).2.2.1 49 d = nI b := by
    show upd (u.2.2.1 49) d (nI b) d = nI b
    exact ya_t
  have k14 : (xs_A (xs_A (xs_A (xs_I u 23 (nI t)) 48 d (nI g)) 49 d (nI b)) 50 d (u.1 26)).2.2.1 14 g = nI ll := h14
  rw [k24, if_neg (nI_in (N := 60) hd (by decide)), show (nI d).toNatClampNeg = d from nI_clamp (by omega), k49, k14, nI_add, if_neg (show ¬ (nI g < 0 ∨ 65 ≤ g) from fun y => y.elim (nI_pos (by omega)) (by omega))]
  have m13 : (xs_I (xs_A (xs_A (xs_A (xs_I u 23 (nI t)) 48 d (nI g)) 49 d (nI b)) 50 d (u.1 26)) 25 (nI (b + ll))).2.2.1 13 g = nI sz := h13
  rw [if_neg (show ¬ (nI g < 0 ∨ 65 ≤ g) from fun y => y.elim (nI_pos (by omega)) (by omega)), m13, nI_1]
  have m24 : (xs_I (xs_I (xs_A (xs_A (xs_A (xs_I u 23 (nI t)) 48 d (nI g)) 49 d (nI b)) 50 d (u.1 26)) 25 (nI (b + ll))) 26 (nI (sz + 1))).1 24 = nI d := h24
  rw [m24, nI_1]
/-- and by the reference -/
theorem mp_enter {t t' pc rc ws bd : Nat} {pm : Int32} (hJ : v.2.1 2 = lN (t + 1)) (ht : t + 1 < 2 ^ 31) (h27 : v.1 27 = nI d) (hd : d < 60) (h9 : v.2.2.1 9 g = nI t') (ht' : t' < 64) (h5 : v.2.2.1 5 t' = nI pc) (h26 : v.1 26 = nI (b + pc)) (hL : mLo T L g v) (hpc : pc ≤ L.length) (h28 : v.1 28 = nI ws) (hws : ws < 6200) (h6 : v.2.2.1 6 t' = nI rc) (h10 : v.2.2.1 10 g = nI bd) (hb : b + L.length ≤ 18000) (hfu : L.length < fu) : ∃ ve, fm_Model_enter fu (nI g) pm v = some ((), ve) ∧ yf_fr [4, 26, 27, 28] [2] [29, 30, 31, 32, 33, 34, 35, 36] [3] v ve ∧ ve.2.1 2 = lN t ∧ ve.1 27 = nI (d + 1) ∧ ve.1 4 = nI bd ∧ ve.1 26 = nI (b + L.length) ∧ ve.1 28 = nI (ws + 1) ∧ ve.2.2.1 30 = upd (v.2.2.1 30) d pm ∧ ve.2.2.1 31 = upd (v.2.2.1 31) d (nI b) ∧ ve.2.2.1 32 = upd (v.2.2.1 32) d (nI ws) ∧ ve.2.2.1 34 = upd (v.2.2.1 34) ws (nI rc) ∧ ve.2.2.1 35 = upd (v.2.2.1 35) ws (nI (b + L.length)) ∧ ve.2.2.1 36 = upd (v.2.2.1 36) ws 0 ∧ (∀ i, ¬ i = ws → ve.2.2.1 33 i = v.2.2.1 33 i) ∧ (∀ (i : Nat) c, pc ≤ i → L[i]? = some c → ve.2.2.2 3 (b + i) = 0 ∧ ve.2.2.1 29 (b + i) = (if 16 ≤ c then 1 else 0)) ∧ ∀ i, i < b + pc → ve.2.2.2 3 i = v.2.2.2 3 i ∧ ve.2.2.1 29 i = v.2.2.1 29 i := by
  have hg := hL.2.2.1
  unfold fm_Model_enter
  simp only [xs_let]
  have c0 : ¬ lN (t + 1) = (0 : Int64) := fun y => by
    have h1 := (pk_lLE (a := t + 1) (b := 0) (by omega) (by omega)).mp (by rw [y]; exact Int64.le_refl _)
    omega
  have c60 : ¬ nI d = (60 : Int32) := fun y => by have := (nI_eq (b := 60) (by omega) (by decide)).mp y; omega
  rw [hJ, if_neg c0, h27, if_neg c60, show lN (t + 1) - 1 = lN t from lN_sub (a := t + 1) (b := 1) (by omega), if_neg (nI_in (N := 64) hg (by decide)), show (nI g).toNatClampNeg = g from nI_clamp (by omega)]
  have a9 : (xs_J v 2 (lN t)).2.2.1 9 g = nI t' := h9
  have a27 : (xs_J v 2 (lN t)).1 27 = nI d := h27
  rw [a9, a27, if_neg (nI_in (N := 61) (by omega) (by decide)), show (nI d).toNatClampNeg = d from nI_clamp (by omega), if_neg (nI_in (N := 64) ht' (by decide)), show (nI t').toNatClampNeg = t' from nI_clamp (by omega)]
  have b27 : (xs_A (xs_J v 2 (lN t)) 30 d pm).1 27 = nI d := h27
  have b26 : (xs_A (xs_J v 2 (lN t)) 30 d pm).1 26 = nI (b + pc) := h26
  have b5 : (xs_A (xs_J v 2 (lN t)) 30 d pm).2.2.1 5 t' = nI pc := h5
  rw [b27, b26, b5, nI_subb, if_neg (nI_in (N := 61) (by omega) (by decide)), show (nI d).toNatClampNeg = d from nI_clamp (by omega)]
  have c27 : (xs_A (xs_A (xs_J v 2 (lN t)) 30 d pm) 31 d (nI b)).1 27 = nI d := h27
  have c28 : (xs_A (xs_A (xs_J v 2 (lN t)) 30 d pm) 31 d (nI b)).1 28 = nI ws := h28
  rw [c27, c28, if_neg (nI_in (N := 61) (by omega) (by decide)), show (nI d).toNatClampNeg = d from nI_clamp (by omega)]
  have d27 : (xs_A (xs_A (xs_A (xs_J v 2 (lN t)) 30 d pm) 31 d (nI b)) 32 d (nI ws)).1 27 = nI d := h27
  rw [d27, nI_1, if_neg (show ¬ (nI t' < 0 ∨ 64 ≤ t') from fun y => y.elim (nI_pos (by omega)) (by omega))]
  generalize hx : xs_I (xs_A (xs_A (xs_A (xs_J v 2 (lN t)) 30 d pm) 31 d (nI b)) 32 d (nI ws)) 27 (nI (d + 1)) = x
  have fx : yf_fr [27] [2] [30, 31, 32] [] v x := by rw [← hx]; exact yf_I (yf_A (yf_A (yf_A (yf_J yf_refl (by decide)) (by decide)) (by decide)) (by decide)) (by decide)
  have x5 : x.2.2.1 5 t' = nI pc := by rw [fx.2.2.1 5 (by decide)]; exact h5
  rw [x5]
  have hLx : mLo T L g x := mLo_fr hL fx (by decide)
  obtain ⟨y, y1, y2, y3, y4, y5⟩ := mp_140 (fu := fu) (b := b) (t := t') hLx yf_refl (L.length - pc) pc fu x (by omega) (by omega) yf_refl (by rw [fx.1 26 (by decide)]; exact h26) hb
  rw [y1, if_neg (nI_in (N := 64) ht' (by decide)), show (nI t').toNatClampNeg = t' from nI_clamp (by omega)]
  have y6 : y.2.2.1 6 t' = nI rc := by rw [y2.2.2.1 6 (by decide), fx.2.2.1 6 (by decide)]; exact h6
  have y28 : y.1 28 = nI ws := by rw [y2.1 28 (by decide), fx.1 28 (by decide)]; exact h28
  rw [y6, y3]
  unfold fm_Model_beginWay
  simp only [xs_let]
  rw [y28, if_neg (nI_in (N := 6200) hws (by decide)), show (nI ws).toNatClampNeg = ws from nI_clamp (by omega)]
  have z1 : (xs_A y 33 ws 0).1 28 = nI ws := y28
  rw [z1, if_neg (nI_in (N := 6200) hws (by decide)), show (nI ws).toNatClampNeg = ws from nI_clamp (by omega)]
  have z2 : (xs_A (xs_A y 33 ws 0) 34 ws (nI rc)).1 28 = nI ws := y28
  rw [z2, if_neg (nI_in (N := 6200) hws (by decide)), show (nI ws).toNatClampNeg = ws from nI_clamp (by omega)]
  have z3 : (xs_A (xs_A (xs_A y 33 ws 0) 34 ws (nI rc)) 35 ws (nI (b + L.length))).1 28 = nI ws := y28
  rw [z3, if_neg (nI_in (N := 6200) hws (by decide)), show (nI ws).toNatClampNeg = ws from nI_clamp (by omega), bo_0]
  have z4 : (xs_A (xs_A (xs_A (xs_A y 33 ws 0) 34 ws (nI rc)) 35 ws (nI (b + L.length))) 36 ws 0).1 28 = nI ws := y28
  rw [z4, nI_1, ys_seq, if_neg (nI_in (N := 64) hg (by decide)), show (nI g).toNatClampNeg = g from nI_clamp (by omega)]
  have z10 : (xs_I (xs_A (xs_A (xs_A (xs_A y 33 ws 0) 34 ws (nI rc)) 35 ws (nI (b + L.length))) 36 ws 0) 28 (nI (ws + 1))).2.2.1 10 g = nI bd := by
    show y.2.2.1 10 g = nI bd
    rw [y2.2.2.1 10 (by decide), fx.2.2.1 10 (by decide)]; exact h10
  rw [z10]
  refine ⟨_, rfl, yf_I (yf_I (yf_A (yf_A (yf_A (yf_A (yf_trans (yf_mono fx (by decide)) (yf_mono y2 (by decide))) (by decide)) (by decide)) (by decide)) (by decide)) (by decide)) (by decide), ?_, ?_, rfl, y3, rfl, ?_, ?_, ?_, ?_, ?_, ?_, fun i hi => ?_, y4, fun i hi => ?_⟩
  · show y.2.1 2 = lN t
    rw [y2.2.1 2 (by decide), ← hx]; rfl
  · show y.1 27 = nI (d + 1)
    rw [y2.1 27 (by decide), ← hx]; rfl
  · show y.2.2.1 30 = _
    rw [y2.2.2.1 30 (by decide), ← hx]; rfl
  · show y.2.2.1 31 = _
    rw [y2.2.2.1 31 (by decide), ← hx]; rfl
  · show y.2.2.1 32 = _
    rw [y2.2.2.1 32 (by decide), ← hx]; rfl
  · show upd (y.2.2.1 34) ws (nI rc) = _
    rw [y2.2.2.1 34 (by decide), fx.2.2.1 34 (by decide)]
  · show upd (y.2.2.1 35) ws (nI (b + L.length)) = _
    rw [y2.2.2.1 35 (by decide), fx.2.2.1 35 (by decide)]
  · show upd (y.2.2.1 36) ws 0 = _
    rw [y2.2.2.1 36 (by decide), fx.2.2.1 36 (by decide)]
  · show upd (y.2.2.1 33) ws 0 i = _
    rw [ya_j hi, y2.2.2.1 33 (by decide), fx.2.2.1 33 (by decide)]
  · show y.2.2.2 3 i = v.2.2.2 3 i ∧ y.2.2.1 29 i = v.2.2.1 29 i
    exact ⟨by rw [(y5 i hi).1, fx.2.2.2 3 (by decide)], by rw [(y5 i hi).2, fx.2.2.1 29 (by decide)]⟩
/-- a function is entered, on both sides; the class then runs through the entries of its locals -/
theorem re_enter {pm : Int32} (hfu : 18000 < fu) (h : RE D B len T F tc mc G z LL AA tt H rr c.2.1 tn u v) (hg : g < F.length) (hc : T[tt g]? = some c) (hpm : ∀ y r', rr = y :: r' → pm = nI (pq (AA y.1) y.2.1) ∧ ∃ ps Qn, yWd T c.2.2 ps ∧ sq_pushes ps y.2.2 = some Qn ∧ sSt T F tc mc G (LL y.1) (z y.1) (tt y.1) (AA y.1) y.2.1 Qn) :
    (∃ ue ve t tn', fm_Machine_enter (nI g) u = some ((), ue) ∧ fm_Model_enter fu (nI g) pm v = some ((), ve) ∧ 0 < t ∧ t < 20 ∧ ue.1 27 = nI t ∧ ve.1 29 = nI t ∧ RL D B len T F tc mc G z LL AA tt H tn' ue ve) ∨ (∃ ue ve ul tn', tn = tn' + 1 ∧ fm_Machine_enter (nI g) u = some ((), ue) ∧ fm_Model_enter fu (nI g) pm v = some ((), ve) ∧ (∀ n b, b + (AA g).2.1.length < 2 ^ 63 → jb_Machine_run_29 fu (n + (AA g).2.1.length) (lN (b + (AA g).2.1.length)) ue = jb_Machine_run_29 fu n (lN b) ul) ∧ RX D B len T F tc mc G z LL AA tt H ((g, 0, sq_0 (z g) (tt g)) :: rr) tn' ul ve) := by
  have h0 := h
  obtain ⟨h1, h2, h3, h4, h5, h6, h7, h8, h9⟩ := h
  obtain ⟨⟨c', hco⟩, hm, r2, b1, b2, b3, b4, b5, b6, b7⟩ := h1.2.2.2.2.2.2.2 g hg
  obtain ⟨k1, k2, k3, k4, k5, k6, k7, k8, k9, k10, k11⟩ := hco
  rw [hc] at k2; cases k2
  have hF64 := h1.2.1.2.1
  have hT64 := h1.1.1.2.1
  have htl := yl_lt hc
  have hend : sEnd (z g) (AA g) = z g + 1 + (AA g).2.1.length + (AA g).2.2.length := rfl
  have h12 : u.2.2.1 12 g = nI (tt g) := (h1.2.1.2.2.1 g (tt g) k1).1
  have h9m : v.2.2.1 9 g = nI (tt g) := (h1.2.2.2.1.2.2.1 g (tt g) k1).1
  have hty := (h1.1.1.2.2 (tt g) c hc).1
  have hvt := h1.1.2.1.2 (tt g) c hc
  have hp16 := hvt.1
  have hr16 := hvt.2.1 k3
  have h3t : u.2.2.1 3 (tt g) = nI c.2.1.length := by rw [hty.2.1, yn_cs (by omega)]
  obtain ⟨ty, -⟩ := h1.2.2.1.2.2.1 (tt g) c htl hc
  have h5t : v.2.2.1 5 (tt g) = nI c.2.1.length := ty.2.1
  have h6t : v.2.2.1 6 (tt g) = nI c.2.2.length := by rw [ty.2.2.1, if_pos k3]
  obtain ⟨hdcl, -⟩ := sq_body_run k4
  obtain ⟨hLL, hydf⟩ := sq_dclL hdcl
  have hL200 := k10.1
  have hLlen : (LL g).length = c.2.1.length + (lD (AA g).2.1).length := by rw [hLL, List.length_append]
  have hV := fV_le h3
  have hN := fN_le h1 h3
  have hWl : (fW LL rr ++ c.2.1).length = fN LL rr + c.2.1.length := by rw [List.length_append, fW_len]
  have u28 : u.1 28 = nI (fN LL rr + c.2.1.length) := by rw [h2.1, hWl]
  have v26 : v.1 26 = nI (fN LL rr + c.2.1.length) := by rw [h2.2.1, hWl]
  have htn := h7.2.2
  have cu : nI tn = (0 : Int32) ↔ tn = 0 := nI_eq (b := 0) (by omega) (by decide)
  have cv : lN tn = (0 : Int64) ↔ tn = 0 := ⟨fun t => by
    have h1 := (pk_lLE (a := tn) (b := 0) (by omega) (by omega)).mp (by rw [t]; exact Int64.le_refl _)
    omega, fun t => by rw [t]; rfl⟩
  have c60 : nI rr.length = (60 : Int32) ↔ rr.length = 60 := nI_eq (b := 60) (by have := h6.2.2.1; omega) (by decide)
  by_cases zt : tn = 0
  · -- no turns left
    refine Or.inl ⟨xs_I u 27 13, xs_J (xs_I v 29 13) 2 (lN tn - 0), 13, tn, ?_, ?_, by decide, by decide, rfl, rfl, ?_⟩
    · unfold fm_Machine_enter fm_Machine_spendTurn
      simp only [xs_let]
      rw [h7.1, if_pos (cu.mpr zt), ys_seq, if_pos rfl]
    · unfold fm_Model_enter jb_Model_enter_18 jb_Model_enter_35
      simp only [xs_let]
      have e : (xs_I v 29 13).2.1 2 = lN tn := h7.2.1
      rw [h7.2.1, if_pos (cv.mpr zt), if_pos (cv.mpr zt), e, if_pos (cv.mpr zt)]
    · refine re_fr h0 (yf_I (I := [27]) (J := []) (A := []) (B := []) yf_refl (by decide)) (by decide) (yf_J (I := [29]) (J := [2]) (A := []) (B := []) (yf_I yf_refl (by decide)) (by decide)) (by decide) ⟨h7.1, ?_, htn⟩
      show lN tn - 0 = lN tn
      rw [zt]; decide
  · obtain ⟨tn', rfl⟩ : ∃ t, tn = t + 1 := ⟨tn - 1, by omega⟩
    have eJ : lN (tn' + 1) - 1 = lN tn' := lN_sub (a := tn' + 1) (b := 1) (by omega)
    by_cases z60 : rr.length = 60
    · -- too deep
      refine Or.inl ⟨xs_I (xs_I u 23 (nI tn')) 27 12, xs_J (xs_I v 29 12) 2 (lN tn'), 12, tn', ?_, ?_, by decide, by decide, rfl, rfl, ?_⟩
      · unfold fm_Machine_enter fm_Machine_spendTurn
        simp only [xs_let]
        have e24 : (xs_I u 23 (nI tn')).1 24 = nI rr.length := h6.1
        rw [h7.1, if_neg (fun t => zt (cu.mp t)), ys_seq, if_neg (show ¬ (1 : Int32) = 0 by decide), nI_pred, e24, if_pos (c60.mpr z60)]
      · unfold fm_Model_enter jb_Model_enter_18 jb_Model_enter_35
        simp only [xs_let]
        have e : (xs_I v 29 12).2.1 2 = lN (tn' + 1) := h7.2.1
        rw [h7.2.1, if_neg (fun t => zt (cv.mp t)), h6.2.1, if_pos (c60.mpr z60), if_neg (fun t => zt (cv.mp t)), e, if_neg (fun t => zt (cv.mp t)), eJ]
      · exact re_fr h0 (yf_I (I := [23, 27]) (J := []) (A := []) (B := []) (yf_I yf_refl (by decide)) (by decide)) (by decide) (yf_J (I := [29]) (J := [2]) (A := []) (B := []) (yf_I yf_refl (by decide)) (by decide)) (by decide) ⟨rfl, rfl, by omega⟩
    · have hr60 : rr.length < 60 := by have := h6.2.2.1; omega
      have hbl : fN LL rr + (LL g).length ≤ 18000 := by omega
      have huE := hp_enter (u := u) (g := g) h7.1 htn h6.1 hr60 h12 (by omega) (by omega) h3t u28 k9 k5
      generalize hue : xs_I (xs_I (xs_I (xs_A (xs_A (xs_A (xs_I u 23 (nI tn')) 48 rr.length (nI g)) 49 rr.length (nI (fN LL rr))) 50 rr.length (u.1 26)) 25 (nI (fN LL rr + (LL g).length))) 26 (nI (z g + 1))) 24 (nI (rr.length + 1)) = ue at huE
      have fue : yf_fr [23, 24, 25, 26] [] [48, 49, 50] [] u ue := by rw [← hue]; exact yf_I (yf_I (yf_I (yf_A (yf_A (yf_A (yf_I yf_refl (by decide)) (by decide)) (by decide)) (by decide)) (by decide)) (by decide)) (by decide)
      have q48 : ue.2.2.1 48 = upd (u.2.2.1 48) rr.length (nI g) := by rw [← hue]; rfl
      have q49 : ue.2.2.1 49 = upd (u.2.2.1 49) rr.length (nI (fN LL rr)) := by rw [← hue]; rfl
      have q50 : ue.2.2.1 50 = upd (u.2.2.1 50) rr.length (u.1 26) := by rw [← hue]; rfl
      obtain ⟨ve, m1, m2, m3, m4, m5, m6, m7, m8, m9, m10, m11, m12, m13, m14, m15, m16⟩ := mp_enter (fu := fu) (pm := pm) h7.2.1 htn h6.2.1 hr60 h9m (by omega) h5t v26 hm (by omega) h6.2.2.2 (by omega) h6t b5 hbl (by omega)
      obtain ⟨ul, l1, l2, l3, l4, l5, l6⟩ := hx_locals (fu := fu) (sz := z g) hfu (by omega) (AA g).2.1 0 (fN LL rr + c.2.1.length) ue (fun i x hx => by
        obtain ⟨s1, s2, -⟩ := k8 i x hx
        rw [fue.2.2.1 7 (by decide), fue.2.2.1 8 (by decide)]
        exact ⟨s1, s2⟩) (by omega) (by rw [← hue]; rfl) ((fue.1 27 (by decide)).trans h8.1) (by
          have : ue.1 24 = nI (rr.length + 1) := by rw [← hue]; rfl
          rw [this]
          exact fun t => by have := (nI_leI (b := 0) (by omega) (by decide)).mp t; omega) ((fue.1 28 (by decide)).trans u28) (by omega) (by omega)
      have ful : yf_fr [23, 24, 25, 26, 28] [] [37, 48, 49, 50] [10] u ul := yf_trans (yf_mono fue (by decide)) (yf_mono l2 (by decide))
      have hL := re_fr (tn' := tn') h0 ful (by decide) m2 (by decide) ⟨by rw [l2.1 23 (by decide), ← hue]; rfl, m3, by omega⟩
      have hst0 : sSt T F tc mc G (LL g) (z g) (tt g) (AA g) 0 (sq_0 (z g) (tt g)) := rfl
      have hlow : ∀ i, i < fV rr → ve.2.2.1 33 i = v.2.2.1 33 i ∧ ve.2.2.1 34 i = v.2.2.1 34 i ∧ ve.2.2.1 35 i = v.2.2.1 35 i ∧ ve.2.2.1 36 i = v.2.2.1 36 i := fun i hi => by
        rw [m14 i (by omega), m11, m12, m13, ya_j (by omega), ya_j (by omega), ya_j (by omega)]
        exact ⟨rfl, rfl, rfl, rfl⟩
      have hRFlow : ∀ {fs : List rFr}, RF T F z LL AA u v fs → fs.length ≤ rr.length → (∀ i, i < fV fs → i < fV rr) → RF T F z LL AA ul ve fs := by
        intro fs
        induction fs with
        | nil => intro _ _ _; exact trivial
        | cons y r' ih =>
          intro hF hle hvv
          have hyl : (y :: r').length = r'.length + 1 := List.length_cons
          have hyV : fV (y :: r') = fV r' + y.2.2.length := rfl
          refine ⟨?_, ih hF.2 (by omega) fun i hi => hvv i (by omega)⟩
          obtain ⟨a1, a2, a3, a4, a5, a6, a7⟩ := hF.1
          rw [l2.2.2.1 48 (by decide), l2.2.2.1 49 (by decide), l2.2.2.1 50 (by decide), q48, q49, q50, m8, m9, m10, ya_j (by omega), ya_j (by omega), ya_j (by omega), ya_j (by omega), ya_j (by omega), ya_j (by omega)]
          exact ⟨a1, a2, a3, a4, rW_hi a5 (m2.2.2.1 20 (by decide)) fun i hi => hlow i (hvv i (by omega)), a6, a7⟩
      refine Or.inr ⟨ue, ve, ul, tn', rfl, huE, m1, l1, hL.1, ?_, ⟨⟨?_, ?_, ?_, ?_, ?_, ⟨hg, (fun t => by cases t), ?_, sQb_of h1 hg hst0⟩, fun y r' e => ?_⟩, hRFlow h3 (Nat.le_refl _) fun i hi => hi⟩, ?_, hL.2.1, ⟨?_, ?_, ?_, ?_⟩, hL.2.2, ⟨?_, ?_, ?_, ?_⟩, fun y r' e => ?_⟩
      · -- the stacks
        have hW : fW LL ((g, 0, sq_0 (z g) (tt g)) :: rr) = (fW LL rr ++ c.2.1) ++ lD (AA g).2.1 := by
          show fW LL rr ++ (LL g ++ sq_f (sq_0 (z g) (tt g))) = _
          rw [show sq_f (sq_0 (z g) (tt g)) = [] from rfl, List.append_nil, hLL, List.append_assoc]
        rw [hW]
        refine ⟨?_, ?_, ?_, fun i e he => ?_⟩
        · rw [l4, List.length_append, hWl]
        · rw [m6, List.length_append, hWl, hLlen]
          congr 1; omega
        · rw [List.length_append, hWl]; omega
        · have hi := yl_lt he
          rw [List.length_append, hWl] at hi
          by_cases zi : i < fN LL rr + c.2.1.length
          · rw [List.getElem?_append_left (by rw [hWl]; exact zi)] at he
            rw [(l6 i zi).1, (l6 i zi).2, fue.2.2.2 10 (by decide), fue.2.2.1 37 (by decide), (m16 i zi).1, (m16 i zi).2]
            exact h2.2.2.2 i e he
          · rw [List.getElem?_append_right (by rw [hWl]; omega), hWl] at he
            have hmem := List.mem_of_getElem? he
            obtain ⟨i1, p1, hp1, hp2⟩ := lD_mem hmem
            have hpos := (k8 i1 p1 hp1).2.2
            have hLi : (LL g)[i - fN LL rr]? = some e := by
              rw [hLL, List.getElem?_append_right (by omega), ← he]
              congr 1; omega
            obtain ⟨y1, y2⟩ := k10.2 _ e hLi
            obtain ⟨z1, z2⟩ := m15 (i - fN LL rr) e (by omega) hLi
            rw [show fN LL rr + (i - fN LL rr) = i by omega] at z1 z2
            rw [(l5 i (by omega) (by omega)).1, (l5 i (by omega) (by omega)).2, z1, z2]
            refine ⟨rv_zero (hydf e hmem) ?_, rfl⟩
            have h150 := y1.1
            rcases y2 with t | t | t
            · omega
            · omega
            · exact Or.inr (Or.inr ⟨t.1, h150⟩)
      · rw [l2.2.2.1 48 (by decide), q48, ya_t]
      · rw [l2.2.2.1 49 (by decide), q49, ya_t]
      · rw [m9, ya_t]
      · rw [m10, ya_t]
      · intro e f0 he
        cases e with
        | zero =>
          cases he
          have hlab : sb_lab T ((z g, 0), 0, (.inr (lN (tt g)) : Option Nat ⊕ Int64), false, ([] : List Nat)) = c.2.2 := by
            unfold sb_lab
            show (if (0 : Nat) = 3 then _ else (match T[sb_n (lN (tt g))]? with
              | none => []
              | some c => c.2.2)) = c.2.2
            rw [if_neg (by decide), sb_nL (by omega), hc]
          rw [hlab]
          refine ⟨?_, ?_, ?_, fun t => absurd rfl t⟩
          · show ve.2.2.1 34 (fV rr + 0) = _
            rw [Nat.add_zero, m11, ya_t]
          · show ve.2.2.1 35 (fV rr + 0) = nI (fN LL rr + (LL g).length + 0)
            rw [Nat.add_zero, Nat.add_zero, m12, ya_t]
          · show ve.2.2.1 36 (fV rr + 0) = _
            rw [Nat.add_zero, m13, ya_t]
            exact (if_neg (show ¬ (0 : Nat) = 3 by decide)).symm
        | succ e => simp [sq_0] at he
      · intro e f0 he
        cases e with
        | zero => cases he; rfl
        | succ e => simp [sq_0] at he
      · obtain ⟨pp, -⟩ := hpm y r' e
        rw [l2.2.2.1 50 (by decide), q50, ya_t, m8, ya_t]
        exact ⟨h9 y r' e, pp⟩
      · cases hrr : rr with
        | nil => exact trivial
        | cons y r' =>
          obtain ⟨-, ps, Qn, p0, p1, p2⟩ := hpm y r' hrr
          rw [hrr] at h4
          exact ⟨⟨c, ps, Qn, hc, p0, p1, p2⟩, h4⟩
      · rw [l2.1 24 (by decide), ← hue]; rfl
      · rw [m4]; rfl
      · show rr.length + 1 ≤ 60
        omega
      · rw [m7]; rfl
      · rw [l2.1 27 (by decide), fue.1 27 (by decide)]; exact h8.1
      · rw [m2.1 29 (by decide)]; exact h8.2.1
      · rw [m2.1 6 (by decide)]; exact h8.2.2.1
      · rw [m2.1 5 (by decide)]; exact h8.2.2.2
      · cases e
        refine ⟨?_, ?_, ?_, hst0⟩
        · rw [l3]
          show nI (z g + 1 + 0 + (AA g).2.1.length) = nI (z g + 1 + (AA g).2.1.length + 0)
          congr 1
        · rw [l2.1 25 (by decide), ← hue]; rfl
        · rw [m5]
          have := yp_codeH b1
          show nI r2 = nI (pq (AA g) 0)
          rw [← this]; rfl
end
