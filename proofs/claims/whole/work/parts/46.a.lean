section
variable {α β γ δ σ τ : Type} {B : Nat → Int32} {u v w u' v' u0 v0 u1 v1 uh um : xk_St} {T : List (Nat × List Nat × List Nat)} {F : List Nat} {G : List (Nat × Nat × Nat × Int64)} {n fu p q k j d b g m i t tc mc D f tn : Nat} {H H' : rH} {z : Nat → Nat} {LL : Nat → List Nat} {AA : Nat → sBo} {tt : Nat → Nat} {c : Nat × List Nat × List Nat} {R : List Nat}
/-- a whole run by both -/
theorem rn_run (hfu : 2 ^ 46 < fu) (hSt : rSt D B n T F tc mc G z LL AA tt u v) (hRD : RD T F tc H G u v) (hf : f < F.length) (hc : T[tt f]? = some c) (hRS : RS T H c.2.1 u v) (h29 : v.1 29 = 0) (htn : tn < 2 ^ 31) : ∃ u' v', fm_Machine_run fu (nI f) (nI tn) u = some (u'.1 27, u') ∧ fm_Model_run fu (nI f) (lN tn) v = jb_Model_run_149 fu v' ∧ rEn D B n T F tc mc G z LL AA tt c.2.2 u' v' := by
  let ua : xk_St := xs_I (xs_I (xs_I u 23 (nI tn)) 27 0) 24 0
  let va : xk_St := xs_I (xs_I (xs_I (xs_I (xs_J v 2 (lN tn)) 27 0) 28 0) 5 (nI n)) 6 0
  have hfa : yf_fr [23, 24, 27] [] [] [] u ua := yf_I (yf_I (yf_I yf_refl (by decide)) (by decide)) (by decide)
  have hva : yf_fr [5, 6, 27, 28] [2] [] [] v va := yf_I (yf_I (yf_I (yf_I (yf_J yf_refl (by decide)) (by decide)) (by decide)) (by decide)) (by decide)
  have hE : RE D B n T F tc mc G z LL AA tt H [] c.2.1 tn ua va := by
    refine ⟨rSt_fv (rSt_fu hSt hfa (by decide)) hva (by decide), RS_fv (RS_fu hRS hfa (by decide)) hva (by decide), trivial, trivial, RD_fv (RD_fu hRD hfa (by decide)) hva (by decide), ⟨rfl, rfl, by decide, rfl⟩, ⟨rfl, rfl, htn⟩, ⟨rfl, h29, rfl, rfl⟩, (fun y r' h => by cases h)⟩
  have hen := re_enter (pm := 0) (fu := fu) (by omega) hE hf hc (fun y r' h => by cases h)
  have e1 : fm_Machine_run fu (nI f) (nI tn) u = xs_seq (fm_Machine_enter (nI f) ua) fun _ u4 => jb_Machine_run_29 fu fu (lN ((tn + 1) * 8192)) u4 := by
    unfold fm_Machine_run
    simp only [xs_let]
    have : ((nI tn).toInt64 + 1) * 8192 = lN ((tn + 1) * 8192) := by
      rw [nI_toL (by omega), show (1 : Int64) = lN 1 from rfl, lN_add2 (by omega) (by omega)]
      apply Int64.toInt_inj.mp
      rw [Int64.toInt_mul, pk_lT (by omega), pk_lT (by omega)]
      have e8 : (8192 : Int64).toInt = 8192 := by decide
      rw [e8, b64 (by omega) (by omega)]
      omega
    rw [this]
  have e2 : fm_Model_run fu (nI f) (lN tn) v = xs_seq (fm_Model_enter fu (nI f) 0 va) fun _ u6 => jb_Model_run_34 fu fu u6 := by
    unfold fm_Model_run
    simp only [xs_let]
    have : (xs_I (xs_I (xs_J v 2 (lN tn)) 27 0) 28 0).1 3 = nI n := hSt.2.2.2.2.2.1
    rw [this]
  rw [e1, e2]
  obtain ⟨f0, hf0⟩ : ∃ f0, fu = f0 + 1 := ⟨fu - 1, by omega⟩
  rcases hen with ⟨ue, ve, t, tn', a1, a2, a3, a4, a5, a6, a7⟩ | ⟨ue, ve, ul, tn', a0, a1, a2, a3, a4⟩
  · rw [a1, a2, ys_seq, ys_seq]
    have r1 := rn_h (fu := fu) (n := f0) (b := (tn + 1) * 8192) ⟨a3, a4⟩ a5
    have r2 := rn_m (fu := fu) (n := f0) ⟨a3, a4⟩ a6
    rw [← hf0] at r1 r2
    exact ⟨ue, ve, r1, r2, H, tn', a7, Or.inl ⟨t, a3, a4, a5, a6⟩⟩
  · rw [a1, a2, ys_seq, ys_seq]
    have hX := a4
    obtain ⟨⟨c', hco⟩, -⟩ := hX.1.2.2.2.2.2.2.2 f hf
    have hl : sEnd (z f) (AA f) ≤ 8192 := hco.2.2.2.2.2.1
    have hle : sEnd (z f) (AA f) = z f + 1 + (AA f).2.1.length + (AA f).2.2.length := rfl
    have hrun := a3 (fu - (AA f).2.1.length) ((tn + 1) * 8192 - (AA f).2.1.length) (by omega)
    rw [show fu - (AA f).2.1.length + (AA f).2.1.length = fu by omega, show (tn + 1) * 8192 - (AA f).2.1.length + (AA f).2.1.length = (tn + 1) * 8192 by omega] at hrun
    rw [hrun]
    have hfp : fP AA [(f, 0, sq_0 (z f) (tt f))] tn' = ((AA f).2.2.length - 0) + 8192 * tn' := rfl
    obtain ⟨u', v', r1, r2, r3⟩ := rn_loop (fu := fu) (R := c.2.2) (f0 := f) (by omega) (fun c2 hc2 => by rw [hc] at hc2; cases hc2; rfl) (fP AA [(f, 0, sq_0 (z f) (tt f))] tn') H [(f, 0, sq_0 (z f) (tt f))] tn' (fu - (AA f).2.1.length) fu ((tn + 1) * 8192 - (AA f).2.1.length) ul ve (Nat.le_refl _) (by omega) (by omega) (by omega) (by omega) a4 rfl
    exact ⟨u', v', r1, r2, r3⟩
/-- what is told of a value -/
theorem rv_shown {cc : Nat} {xh xm : Int64} {fh : Int32} (hH : RHp T H u v) (h : rv T H cc xh fh xm) : (if fh = 0 then xh else if xh = 0 then (0 : Int64) else 1) = if 16 ≤ cc then (if xm = 0 then 0 else 1) else xm := by
  by_cases c16 : 16 ≤ cc
  · rw [if_pos c16]
    have hK := rK_0 hH (rv_K h c16)
    by_cases f0 : fh = 0
    · rw [if_pos f0]
      rcases h with ⟨a, -⟩ | ⟨a, -⟩ | ⟨-, -, hr⟩
      · omega
      · omega
      rcases hr with ⟨r1, r2, -, -⟩ | ⟨r1, -⟩ | ⟨r1, -⟩
      · rw [r1, r2, if_pos rfl]
      · rw [f0] at r1; exact absurd r1 (by decide)
      · rw [f0] at r1; exact absurd r1 (by decide)
    · rw [if_neg f0]
      by_cases x0 : xh = 0
      · rw [if_pos x0, if_pos (hK.mp x0)]
      · rw [if_neg x0, if_neg (fun t => x0 (hK.mpr t))]
  · rw [if_neg c16]
    rcases h with ⟨a, b, e, -⟩ | ⟨a, b, e⟩ | ⟨a, -⟩
    · rw [if_pos e, b]
    · rw [if_pos e, b]
    · omega
/-- the reference tells its results -/
theorem mr_180 (hR : R.length ≤ 16) (hRS : RS T H R u v0) : ∀ (j i nn : Nat) (v : xk_St), i + j = R.length → j < nn → v.1 31 = nI R.length → yf_fr [30, 31] [] [] [4] v0 v → (∀ (x : Nat) cc, x < i → R[x]? = some cc → v.2.2.2 4 x = if 16 ≤ cc then (if v0.2.2.2 3 x = 0 then 0 else 1) else v0.2.2.2 3 x) → ∃ v', jb_Model_run_180 fu nn (nI i) v = some ((), v') ∧ v'.1 26 = 0 ∧ v'.1 27 = 0 ∧ v'.1 31 = nI R.length ∧ v'.1 30 = v.1 30 ∧ yf_fr [26, 27, 30, 31] [] [] [4] v0 v' ∧ ∀ (x : Nat) cc, R[x]? = some cc → v'.2.2.2 4 x = if 16 ≤ cc then (if v0.2.2.2 3 x = 0 then 0 else 1) else v0.2.2.2 3 x := by
  intro j
  induction j with
  | zero =>
    intro i nn v hij hn h31 hf hx
    obtain ⟨nn, rfl⟩ : ∃ f, nn = f + 1 := ⟨nn - 1, by omega⟩
    refine ⟨xs_I (xs_I v 26 0) 27 0, ?_, rfl, rfl, h31, rfl, yf_I (yf_I (yf_mono hf (by decide)) (by decide)) (by decide), fun x cc hc => hx x cc (by have := yl_lt hc; omega) hc⟩
    unfold jb_Model_run_180
    simp only [xs_let]
    rw [h31, if_pos (nI_le (by omega) (by omega))]
  | succ j ih =>
    intro i nn v hij hn h31 hf hx
    obtain ⟨nn, rfl⟩ : ∃ f, nn = f + 1 := ⟨nn - 1, by omega⟩
    obtain ⟨cc, hcc⟩ : ∃ cc, R[i]? = some cc := ⟨_, List.getElem?_eq_getElem (by omega)⟩
    obtain ⟨-, h29⟩ := hRS.2.2.2 i cc hcc
    let val : Int64 := if 16 ≤ cc then (if v0.2.2.2 3 i = 0 then 0 else 1) else v0.2.2.2 3 i
    obtain ⟨v', r1, r2, r3, r4, r5, r6, r7⟩ := ih (i + 1) nn (xs_B v 4 i val) (by omega) (by omega) h31 (yf_B hf (by decide)) (fun x c2 hx2 hc2 => by
      show vp_updL (v.2.2.2 4) i val x = _
      by_cases q : x = i
      · subst q
        rw [hcc] at hc2; cases hc2
        rw [yb_t]
      · rw [yb_j q]; exact hx x c2 (by omega) hc2)
    refine ⟨v', ?_, r2, r3, r4, r5, r6, r7⟩
    rw [← r1]
    conv => lhs; unfold jb_Model_run_180
    unfold jb_Model_run_232
    simp only [xs_let]
    have i16 : ∀ {α : Type} {o : Option (α × xk_St)}, (if nI i < 0 ∨ 16 ≤ i then none else o) = o := fun {α o} => if_neg (nI_inc (by omega) (by decide))
    rw [h31, if_neg (fun t => by have := (nI_leI (by omega) (by omega)).mp t; omega), ix19 (by omega), ix19 (by omega), ix19 (by omega), show (nI i).toNatClampNeg = i from nI_clamp (by omega), i16, i16, i16, hf.2.2.1 29 (by simp), h29, hf.2.2.2 3 (by decide), nI_1]
    show _ = jb_Model_run_180 fu nn (nI (i + 1)) (xs_B v 4 i (if 16 ≤ cc then (if v0.2.2.2 3 i = 0 then 0 else 1) else v0.2.2.2 3 i))
    by_cases q : 16 ≤ cc
    · rw [if_pos q, if_pos q, if_neg (by decide)]
      by_cases q2 : v0.2.2.2 3 i = 0
      · rw [if_pos q2, if_pos q2]
      · rw [if_neg q2, if_neg q2]
    · rw [if_neg q, if_neg q, if_pos rfl]
theorem mr_149 (hfu : 100 < fu) (hR : R.length ≤ 16) (h : rEn D B n T F tc mc G z LL AA tt R u v) : ∃ v' rr, jb_Model_run_149 fu v = some ((), v') ∧ v'.1 26 = 0 ∧ v'.1 27 = 0 ∧ v'.1 29 = v.1 29 ∧ v'.1 30 = u.1 23 ∧ v'.1 31 = nI rr ∧ (¬ u.1 27 = 0 → rr = 0) ∧ (u.1 27 = 0 → rr = R.length ∧ ∀ (x : Nat) cc, R[x]? = some cc → v'.2.2.2 4 x = if u.2.2.1 37 x = 0 then u.2.2.2 10 x else if u.2.2.2 10 x = 0 then 0 else 1) ∧ yf_fr [26, 27, 30, 31] [] [] [4] v v' := by
  obtain ⟨H, tn, hL, he⟩ := h
  obtain ⟨hSt, hRD, l1, l2, l3⟩ := hL
  have h30 : (v.2.1 2).toInt32 = u.1 23 := by rw [l2, sb_nLi l3, l1]
  unfold jb_Model_run_149 jb_Model_run_174
  simp only [xs_let]
  rw [h30]
  rcases he with ⟨t, t0, t1, t2, t3⟩ | ⟨t1, t2, t3, t4, t5⟩
  · have ht : ¬ nI t = 0 := fun q => by have := (nI_eq (b := 0) (by omega) (by decide)).mp q; omega
    have e29 : (xs_I v 30 (u.1 23)).1 29 = nI t := t3
    rw [e29, if_neg ht]
    have hRS0 : RS T H [] (xs_I u 28 (nI 0)) (xs_I v 26 (nI 0)) := ⟨rfl, rfl, by decide, (fun i c hc => by cases hc)⟩
    obtain ⟨f0, hf0⟩ : ∃ f0, fu = f0 + 1 := ⟨fu - 1, by omega⟩
    have e180 : jb_Model_run_180 fu (f0 + 1) 0 (xs_I (xs_I v 30 (u.1 23)) 31 0) = some ((), xs_I (xs_I (xs_I (xs_I v 30 (u.1 23)) 31 0) 26 0) 27 0) := by
      unfold jb_Model_run_180
      simp only [xs_let]
      have : (xs_I (xs_I v 30 (u.1 23)) 31 0).1 31 = 0 := rfl
      rw [this, if_pos (by decide)]
    rw [← hf0] at e180
    rw [e180]
    refine ⟨_, 0, rfl, rfl, rfl, rfl, rfl, rfl, fun _ => rfl, fun q => ?_, yf_I (yf_I (yf_I (yf_I yf_refl (by decide)) (by decide)) (by decide)) (by decide)⟩
    rw [t2] at q
    exact absurd q ht
  · have e29 : (xs_I v 30 (u.1 23)).1 29 = 0 := t2
    have e26 : (xs_I v 30 (u.1 23)).1 26 = nI R.length := t5.2.1
    rw [e29, if_pos rfl, e26]
    obtain ⟨v', r1, r2, r3, r4, r5, r6, r7⟩ := mr_180 (fu := fu) hR t5 R.length 0 fu (xs_I (xs_I v 30 (u.1 23)) 31 (nI R.length)) (by omega) (by omega) rfl (yf_I (yf_I yf_refl (by decide)) (by decide)) (fun x cc hx => by omega)
    have r1' : jb_Model_run_180 fu fu 0 (xs_I (xs_I v 30 (u.1 23)) 31 (nI R.length)) = some ((), v') := r1
    rw [r1']
    refine ⟨v', R.length, rfl, r2, r3, by rw [r6.1 29 (by decide)], r5, r4, fun q => absurd t1 q, fun _ => ⟨rfl, fun x cc hc => ?_⟩, r6⟩
    rw [r7 x cc hc]
    exact (rv_shown hRD.1 (t5.2.2.2 x cc hc).1).symm
/-- the class keeps its results -/
theorem hk_18 (hR : R.length ≤ 16) : ∀ (j i nn : Nat) (u : xk_St), i + j = R.length → j < nn → u.1 2 = nI R.length → yf_fr [] [] [] [1] u0 u → (∀ x, x < i → u.2.2.2 1 x = if u0.2.2.1 37 x = 0 then u0.2.2.2 10 x else if u0.2.2.2 10 x = 0 then 0 else 1) → ∃ u', jb_House_keepResults_18 fu nn (nI i) u = some ((), u') ∧ yf_fr [] [] [] [1] u0 u' ∧ ∀ x, x < R.length → u'.2.2.2 1 x = if u0.2.2.1 37 x = 0 then u0.2.2.2 10 x else if u0.2.2.2 10 x = 0 then 0 else 1 := by
  intro j
  induction j with
  | zero =>
    intro i nn u hij hn h2 hf hx
    obtain ⟨nn, rfl⟩ : ∃ f, nn = f + 1 := ⟨nn - 1, by omega⟩
    refine ⟨u, ?_, hf, fun x hx2 => hx x (by omega)⟩
    unfold jb_House_keepResults_18
    simp only [xs_let]
    rw [h2, if_pos (nI_le (by omega) (by omega))]
  | succ j ih =>
    intro i nn u hij hn h2 hf hx
    obtain ⟨nn, rfl⟩ : ∃ f, nn = f + 1 := ⟨nn - 1, by omega⟩
    obtain ⟨u', r1, r2, r3⟩ := ih (i + 1) nn (xs_B u 1 i (if u0.2.2.1 37 i = 0 then u0.2.2.2 10 i else if u0.2.2.2 10 i = 0 then 0 else 1)) (by omega) (by omega) h2 (yf_B hf (by decide)) (fun x hx2 => by
      show vp_updL (u.2.2.2 1) i _ x = _
      by_cases q : x = i
      · subst q; rw [yb_t]
      · rw [yb_j q]; exact hx x (by omega))
    refine ⟨u', ?_, r2, r3⟩
    rw [← r1]
    have hsh : fm_House_shown (nI i) u = some (if u0.2.2.1 37 i = 0 then u0.2.2.2 10 i else if u0.2.2.2 10 i = 0 then 0 else 1, u) := by
      unfold fm_House_shown
      rw [ix18 (by omega), ix18 (by omega), ix18 (by omega), show (nI i).toNatClampNeg = i from nI_clamp (by omega), hf.2.2.1 37 (by simp), hf.2.2.2 10 (by decide)]
      by_cases q : u0.2.2.1 37 i = 0
      · rw [if_pos q, if_pos q]
      · rw [if_neg q, if_neg q]
        by_cases q2 : u0.2.2.2 10 i = 0
        · rw [if_pos q2, if_pos q2]
        · rw [if_neg q2, if_neg q2]
    conv => lhs; unfold jb_House_keepResults_18
    simp only [xs_let]
    rw [h2, if_neg (fun t => by have := (nI_leI (by omega) (by omega)).mp t; omega), hsh, ys_seq, if_neg (nI_in (N := 16) (by omega) (by decide)), show (nI i).toNatClampNeg = i from nI_clamp (by omega), nI_1]
end
