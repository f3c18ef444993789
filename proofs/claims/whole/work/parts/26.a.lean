section
variable {α β γ δ : Type} {B : Nat → Int32} {u v w : xk_St} {L lim p q fu : Nat} {e : Int32}
theorem yr_14 : xt_S 14 = 114 := by decide +kernel
theorem yr_5 : xt_S 5 = 101 ∧ xt_S 11 = 110 := by decide +kernel
theorem yr_31 : ∀ j, j < 287 → nI j ≤ (286 : Int32) := by decide +kernel
theorem yp_i101 : yp_imm B lim 101 p = .inl ((.inr 0, 0, 0, []), p) := by
  unfold yp_imm
  rw [if_neg (by decide), if_neg (by decide), if_neg (by decide), if_pos rfl]
theorem yp_i110 : yp_imm B lim 110 p = .inl ((.inr 0, 0, 0, []), p) := by
  unfold yp_imm
  rw [if_neg (by decide), if_neg (by decide), if_neg (by decide), if_neg (by decide), if_neg (by decide), if_neg (by decide), if_pos rfl]
/-- what an instruction's shape brings, told of its number -/
theorem hh_43b {s : Bool} {op sz ns r0 : Nat} {x : Nat × Option Nat} {r : List (Nat × Option Nat)} (h5 : ¬ op = 5) (h11 : ¬ op = 11) (ho : op < 287) (hs1 : ¬ xt_S op = 101) (hs2 : ¬ xt_S op = 110) (h98 : xt_S op = 98 ↔ op = 2 ∨ op = 3 ∨ op = 4) (hfu : 20 ≤ fu) (hn : lim + 2 ≤ fu) (h8 : u.1 8 = nI sz) (h9 : u.1 9 = nI ns) (hz : sz < p) (hns : ns < p) (h : yh_st B lim p (xs_I u 17 (nI r0))) (hok : yo_ok (u.2.2.1 7) (u.2.2.1 9) sz (x :: r)) (hst : yo_st (u.2.2.1 7) (x :: r) = s :: yo_st (u.2.2.1 7) r) :
    yC p (jb_Reader_readInstruction_43 fu (nI (yo_i x)) (nI op) (xt_S op) (xs_I u 17 (nI r0))) (yp_then (yp_imm B lim (xt_S op) p) fun i q => yp_opt (yn_next op s (yo_st (u.2.2.1 7) r)) fun st' => .inl (((op, i), st'), q)) (yJ B lim fun a b v => yk_aft sz (x :: r) u a.1 a.2 b v) := by
  refine yC_then (hh_43 (opn := nI (yo_i x)) hs1 hs2 ho hfu hn (show (xs_I u 17 (nI r0)).1 8 = nI sz from h8) (show (xs_I u 17 (nI r0)).1 9 = nI ns from h9) hz hns h) fun i q e1 e2 hj => ?_
  obtain ⟨b, v, f1, f2, f3⟩ := hj
  obtain ⟨st', g1, g2⟩ := hh_aft (u := xs_I u 17 (nI r0)) (s := s) h5 h11 ho h98 (fun z => by rw [z]; exact yr_14) h8 h9 hok f3 hst
  rw [show (xs_I u 17 (nI r0)).2.2.1 7 = u.2.2.1 7 from rfl] at g1
  rw [g1]
  refine yC_ok (Nat.le_refl _) ⟨b, v, f1, f2, g2.1, g2.2.1, g2.2.2.1, g2.2.2.2.1, ?_, g2.2.2.2.2.2⟩
  obtain ⟨k1, k2, k3⟩ := g2.2.2.2.2.1
  exact ⟨k1, k2, yf_trans (yf_I yf_refl (by decide)) k3⟩
/-- an instruction, read by the class -/
theorem hh_step {s : Bool} {sz ns : Nat} {x : Nat × Option Nat} {r : List (Nat × Option Nat)} (hfu : 20 ≤ fu) (hn : lim + 2 ≤ fu) (h8 : u.1 8 = nI sz) (h9 : u.1 9 = nI ns) (hz : sz ≤ p) (hns : ns ≤ p) (h : yh_st B lim p u) (hok : yo_ok (u.2.2.1 7) (u.2.2.1 9) sz (x :: r)) (hst : yo_st (u.2.2.1 7) (x :: r) = s :: yo_st (u.2.2.1 7) r) :
    yC p (fm_Reader_readInstruction fu (nI (yo_i x)) u) (yp_then (yp_ins B lim p) fun i q => yp_opt (yn_next i.1 s (yo_st (u.2.2.1 7) r)) fun st' => .inl ((i, st'), q)) (yJ B lim fun a b v => yk_aft sz (x :: r) u a.1 a.2 b v) := by
  have hl8 := h.2.2.2.2
  unfold fm_Reader_readInstruction yp_ins
  rw [yp_then_then]
  refine yC_try (yC_of' h (hh_byte h)) fun a q b w e1 e2 hw e3 => ?_
  obtain ⟨rfl, q1, rfl⟩ := e3
  obtain ⟨⟨j, hj, rfl⟩, rfl, hlt⟩ := yp_bb e1
  rw [nI_clamp (by omega)]
  by_cases h251 : j = 251
  · subst h251
    rw [if_pos (show nI 251 = (251 : Int32) from rfl), if_pos (show nI 251 = (251 : Int32) from rfl), yp_then_then]
    refine yC_try (yC_of hw (hh_N hfu hw)) fun n q b w e4 e5 hw2 e6 => ?_
    obtain ⟨rfl, q2, rfl⟩ := e6
    rw [ys_II] at hw2 ⊢
    simp only [xs_let]
    unfold jb_Reader_readInstruction_26
    by_cases h30 : n ≤ 30
    · have hop : (256 : Int32) + (if (31 : Int32) < nI (yn_c n) then (31 : Int32) else nI (yn_c n)) = nI (256 + n) := by
        rw [yn_cs (by omega), if_neg (show ¬ (31 : Int32) < nI n from fun z => by have := (nI_ltI (a := 31) (b := n) (by decide) (by omega)).mp z; omega), show (256 : Int32) = nI 256 from rfl, nI_add]
      rw [hop, if_pos h30, if_pos (yr_31 _ (by omega)), if_neg (nI_in (N := 287) (by omega) (by decide)), nI_clamp (by omega), yp_then_then]
      obtain ⟨c1, c2, c3⟩ := yr_101' n (by omega)
      exact hh_43b (op := 256 + n) (by omega) (by omega) (by omega) c1 c2 ⟨fun z => absurd z c3, fun z => by omega⟩ hfu hn h8 h9 (by omega) (by omega) hw2 hok hst
    · have hop : (256 : Int32) + (if (31 : Int32) < nI (yn_c n) then (31 : Int32) else nI (yn_c n)) = 287 := by
        have hge : 31 ≤ yn_c n := by unfold yn_c; split <;> omega
        by_cases hc : 31 < yn_c n
        · rw [if_pos (show (31 : Int32) < nI (yn_c n) from nI_lt (a := 31) hc (yn_cb n))]; rfl
        · rw [if_neg (show ¬ (31 : Int32) < nI (yn_c n) from fun z => hc ((nI_ltI (a := 31) (by decide) (yn_cb n)).mp z)), show yn_c n = 31 by omega]; rfl
      rw [hop, if_neg h30, if_neg (show ¬ (287 : Int32) ≤ 286 by decide)]
      exact yC_no
  · have hne : ¬ nI j = (251 : Int32) := fun z => h251 ((nI_eq (a := j) (b := 251) (by omega) (by decide)).mp z)
    rw [if_neg hne, if_neg hne, yp_then_then]
    unfold jb_Reader_readInstruction_26
    rw [if_pos (yr_31 _ (by omega)), if_neg (nI_in (N := 287) (by omega) (by decide)), nI_clamp (by omega)]
    obtain ⟨c1, c2, c3⟩ := yr_101 j hj
    have hi8 : yo_i x < 8192 := by
      have := hok.2.1
      omega
    by_cases h5 : j = 5
    · subst h5
      rw [yr_5.1, yp_i101, yp_then_l, hh_43e (sz := sz) (ns := ns) (by decide) (show (xs_I u 17 (nI q1)).1 8 = nI sz from h8) (by omega) hi8]
      have hsx : s = (x.2.isNone && decide (u.2.2.1 7 x.1 = 4)) := by
        have := hst
        injection this with a b
        exact a.symm
      rcases hx : x.2 with _ | k
      · have hi : yo_i x = x.1 := by unfold yo_i; rw [hx]; rfl
        rw [hi]
        by_cases h4 : u.2.2.1 7 x.1 = 4
        · rw [if_pos (show (xs_I u 17 (nI q1)).2.2.1 7 x.1 = 4 from h4)]
          have hst1 : s = true := by rw [hsx, hx, decide_eq_true h4]; rfl
          subst hst1
          exact yC_ok (Nat.le_refl _) ⟨_, _, rfl, hw, hh_aftE hx h4 h8 h9 (by omega) (show sz + 1 ≤ p + 1 by omega) (by omega) hw.2.1 hok⟩
        · rw [if_neg (show ¬ (xs_I u 17 (nI q1)).2.2.1 7 x.1 = 4 from h4)]
          have hst0 : s = false := by rw [hsx, hx, decide_eq_false h4]; rfl
          subst hst0
          exact yC_no
      · have hi : yo_i x = k := by unfold yo_i; rw [hx]; rfl
        obtain ⟨-, d2, -, -⟩ := hok.2.2.2.2.1 k hx
        rw [hi, if_neg (show ¬ (xs_I u 17 (nI q1)).2.2.1 7 k = 4 from fun z => by
          have := d2.symm.trans z
          exact absurd this (by decide))]
        have hst0 : s = false := by rw [hsx, hx]; rfl
        subst hst0
        exact yC_no
    by_cases h11 : j = 11
    · subst h11
      rw [yr_5.2, yp_i110, yp_then_l, hh_43n (sz := sz) (show (xs_I u 17 (nI q1)).1 8 = nI sz from h8) (by omega) hi8]
      exact yC_ok (Nat.le_refl _) ⟨_, _, rfl, hw, hh_aftN h8 h9 (by omega) (show sz + 1 ≤ p + 1 by omega) (by omega) hw.2.1 hok⟩
    exact hh_43b (op := j) h5 h11 (by omega) (fun z => h5 (c1.mp z)) (fun z => h11 (c2.mp z)) c3 hfu hn h8 h9 (by omega) (by omega) hw hok hst
end
