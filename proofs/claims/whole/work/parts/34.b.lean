section
variable {α β γ δ σ τ : Type} {B : Nat → Int32} {u v w u' v' : xk_St} {T : List (Nat × List Nat × List Nat)} {F : List Nat} {G : List (Nat × Nat × Nat × Int64)} {L : List Nat} {n fu tc mc lim p q len f D k tn j : Nat} {Q Q' Q1 Qn : List sFr} {z : Nat → Nat} {LL : Nat → List Nat} {AA : Nat → sBo} {tt : Nat → Nat} {a : sBo} {H : rH} {fs r : List rFr} {x : rFr}
/-- what the reference does with an instruction that it has read -/
noncomputable def mr_st (fu : Nat) (u14 : xk_St) : Option (Unit × xk_St) :=
  if (32 : Int32) ≤ (u14.1 8) then (if (40 : Int32) ≤ (u14.1 8) then (if (65 : Int32) ≤ (u14.1 8) then (if (208 : Int32) ≤ (u14.1 8) then (if (251 : Int32) ≤ (u14.1 8) then fm_Model_doObjects fu u14 else fm_Model_doReferences fu u14) else fm_Model_doNumbers fu u14) else fm_Model_doMemory fu u14) else fm_Model_doNames u14) else fm_Model_doWays fu u14
/-- the instruction that comes next, and all that is known of it -/
def rAt (T : List (Nat × List Nat × List Nat)) (F : List Nat) (tc mc : Nat) (G : List (Nat × Nat × Nat × Int64)) (z : Nat → Nat) (LL : Nat → List Nat) (AA : Nat → sBo) (tt : Nat → Nat) (B : Nat → Int32) (len : Nat) (x : rFr) (y : Nat × sIn) (Qn : List sFr) (u : xk_St) : Prop := (AA x.1).2.2[x.2.1]? = some y ∧ sq_step T F tc mc G (LL x.1) (sEn' (z x.1) (AA x.1) x.2.1) y.1 y.2 x.2.2 = some Qn ∧ hIn T (sEn' (z x.1) (AA x.1) x.2.1) y.2 x.2.2 Qn u ∧ sSt T F tc mc G (LL x.1) (z x.1) (tt x.1) (AA x.1) (x.2.1 + 1) Qn ∧ pq (AA x.1) x.2.1 = y.1 ∧ yp_ins B len y.1 = .inl (y.2, pq (AA x.1) (x.2.1 + 1)) ∧ yg_ins y.2 ∧ sEn' (z x.1) (AA x.1) x.2.1 < 8192 ∧ sQb T Qn
theorem rx_at (h : RX D B len T F tc mc G z LL AA tt H (x :: r) tn u v) : ∃ y Qn, rAt T F tc mc G z LL AA tt B len x y Qn u := by
  obtain ⟨h1, h2, h3, h4, h5, h6, h7, h8, h9⟩ := h
  obtain ⟨t1, t2, t3, t4⟩ := h9 x r rfl
  obtain ⟨g1, g2, g3, g4⟩ := h3.1.2.2.2.2.2.1
  obtain ⟨⟨c, hc⟩, hm, r2, b1, b2, b3, b4, b5, b6, b7⟩ := h1.2.2.2.2.2.2.2 x.1 g1
  obtain ⟨c1, c2, c3, c4, c5, c6, c7, c8, c9, c10, c11⟩ := hc
  obtain ⟨-, Qe, hrun⟩ := sq_body_run c4
  have hM : sM [false] (sq_0 (z x.1) (tt x.1)) := ⟨(fun y => by cases y), trivial⟩
  have hQe := sq_fin b1 hM hrun
  have hj : x.2.1 < (AA x.1).2.2.length := by
    refine Nat.lt_of_not_le fun hn => g2 ?_
    have t4' : sq_run T F tc mc G (LL x.1) (z x.1 + 1 + (AA x.1).2.1.length) ((AA x.1).2.2.take x.2.1) (sq_0 (z x.1) (tt x.1)) = some x.2.2 := t4
    rw [List.take_of_length_le hn] at t4'
    exact sq_fin b1 hM t4'
  obtain ⟨y, hy⟩ := yl_get (l := (AA x.1).2.2) hj
  obtain ⟨Qi, Qn, d1, d2, d3⟩ := sq_run_pre hrun x.2.1 y hy
  have hQi : Qi = x.2.2 := Option.some.inj (d1.symm.trans t4)
  subst hQi
  have hst : sSt T F tc mc G (LL x.1) (z x.1) (tt x.1) (AA x.1) (x.2.1 + 1) Qn := by
    unfold sSt
    rw [sq_run_next hy, d1]
    exact d2
  refine ⟨y, Qn, hy, d2, c11 x.2.1 y _ Qn hy d1 d2, hst, pq_at hy, yl_ins b4 _ (yp_codeA b1 x.2.1 y hy), yp_codeG b1 x.2.1 y hy, ?_, b7 (x.2.1 + 1) Qn (by omega) hst⟩
  have : sEnd (z x.1) (AA x.1) = z x.1 + 1 + (AA x.1).2.1.length + (AA x.1).2.2.length := rfl
  show z x.1 + 1 + (AA x.1).2.1.length + x.2.1 < 8192
  omega
/-- one turn of the class's loop -/
theorem hx_fetch {b : Nat} (h : RX D B len T F tc mc G z LL AA tt H (x :: r) tn u v) (hk : sEn' (z x.1) (AA x.1) x.2.1 < 8192) (hb : b + 1 < 2 ^ 63) : jb_Machine_run_29 fu (n + 1) (lN (b + 1)) u = xs_seq (fm_Machine_step fu (u.2.2.1 7 (sEn' (z x.1) (AA x.1) x.2.1)) (nI (sEn' (z x.1) (AA x.1) x.2.1)) (xs_I u 26 (nI (sEn' (z x.1) (AA x.1) x.2.1 + 1)))) fun _ u8 => jb_Machine_run_29 fu n (lN b) u8 := by
  obtain ⟨h1, h2, h3, h4, h5, h6, h7, h8, h9⟩ := h
  obtain ⟨t1, t2, t3, t4⟩ := h9 x r rfl
  have hl : (x :: r).length = r.length + 1 := List.length_cons
  have h60 := h6.2.2.1
  conv => lhs; unfold jb_Machine_run_29
  simp only [xs_let]
  rw [if_neg (show ¬ lN (b + 1) ≤ 0 from fun y => by have := (pk_lLE (b := 0) hb (by decide)).mp y; omega), if_pos h8.1, h6.1, if_neg (show ¬ nI (x :: r).length ≤ 0 from fun y => by have := (nI_leI (b := 0) (by omega) (by decide)).mp y; omega), t1, nI_1, ix8192 hk, nI_clamp (by omega), show lN (b + 1) - 1 = lN b from lN_sub (a := b + 1) (b := 1) (by omega)]
  rfl
/-- one turn of the reference's loop: what was read -/
theorem mx_fetch {y : Nat × sIn} {Qn : List sFr} (hfu : 8400 ≤ fu) (h : RX D B len T F tc mc G z LL AA tt H (x :: r) tn u v) (hy : rAt T F tc mc G z LL AA tt B len x y Qn u) : ∃ w, jb_Model_run_34 fu (n + 1) v = (xs_seq (mr_st fu w) fun _ v8 => jb_Model_run_34 fu n v8) ∧ yf_fr [4, 6, 8, 9, 10, 11, 23] [0, 1] [] [] v w ∧ yi_ins y.2 w ∧ w.1 4 = nI (pq (AA x.1) (x.2.1 + 1)) ∧ w.1 6 = 0 ∧ w.1 23 = nI y.1 ∧ ym_st B len (pq (AA x.1) (x.2.1 + 1)) w := by
  obtain ⟨h1, h2, h3, h4, h5, h6, h7, h8, h9⟩ := h
  obtain ⟨t1, t2, t3, t4⟩ := h9 x r rfl
  obtain ⟨y1, y2, y3, y4, y5, y6, y7, y8, y9⟩ := hy
  have hl : (x :: r).length = r.length + 1 := List.length_cons
  have h60 := h6.2.2.1
  have hlen := h1.2.2.2.2.2.2.1
  have hq := yp_ins_eats _ _ _ y6
  have hst : ym_st B len y.1 (xs_I v 23 (v.1 4)) := ⟨h1.2.2.2.2.1, by rw [← y5]; exact t3, h8.2.2.2, by omega, hlen⟩
  obtain ⟨b, w, e1, hw, w6, hyi⟩ := zC_g (mm_ins (fu := fu) (by omega) (by omega) hst h8.2.2.1) y6
  have hfw := yf_fm_Model_instruction _ _ e1
  have hvw : yf_fr [4, 6, 8, 9, 10, 11, 23] [0, 1] [] [] v w := yf_trans (yf_I yf_refl (by decide)) (yf_mono hfw (by decide))
  refine ⟨w, ?_, hvw, hyi, hw.2.1, w6, ?_, hw⟩
  · conv => lhs; unfold jb_Model_run_34
    simp only [xs_let]
    rw [h6.2.1, if_neg (show ¬ nI (x :: r).length ≤ 0 from fun y => by have := (nI_leI (b := 0) (by omega) (by decide)).mp y; omega), if_pos h8.2.1, e1, ys_seq]
    unfold mr_st
    by_cases c1 : (32 : Int32) ≤ w.1 8
    · rw [if_pos c1, if_pos c1]
      by_cases c2 : (40 : Int32) ≤ w.1 8
      · rw [if_pos c2, if_pos c2]
        by_cases c3 : (65 : Int32) ≤ w.1 8
        · rw [if_pos c3, if_pos c3]
          by_cases c4 : (208 : Int32) ≤ w.1 8
          · rw [if_pos c4, if_pos c4]
            by_cases c5 : (251 : Int32) ≤ w.1 8
            · rw [if_pos c5, if_pos c5]
            · rw [if_neg c5, if_neg c5]
          · rw [if_neg c4, if_neg c4]
        · rw [if_neg c3, if_neg c3]
      · rw [if_neg c2, if_neg c2]
    · rw [if_neg c1, if_neg c1]
  · rw [hfw.1 23 (by decide), ← y5]
    exact t3
end
