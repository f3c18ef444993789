section
variable {α β γ δ σ τ : Type} {u v w u0 : xk_St} {g : Nat → Nat} {T : List (Nat × List Nat × List Nat)} {F : List Nat} {G : List (Nat × Nat × Nat × Int64)} {L : List Nat} {n fu tc mc : Nat} {Q Q' : List sFr} {s : Option (List sFr)}
/-- 0x05, by the reference -/
theorem ml_else {f : sFr} {r : List sFr} (hfu : 200 ≤ fu) (h : mK T u0 (some (f :: r)) v) : MC (fm_Model_checkElse fu v) fun _ w => mO3 T u0 (sq_else T (f :: r)) w ∧ w.2.2.1 20 = u0.2.2.1 20 ∧ (w.1 7 = 0 → w.2.2.1 21 = upd (u0.2.2.1 21) f.1.2 (u0.1 4)) := by
  unfold fm_Model_checkElse
  refine MC_seq (ml_over hfu h) fun _ w hw => ?_
  obtain ⟨hEw, ⟨Qw, hS, hQ, hs⟩, hfw⟩ := hw
  cases Qw with
  | nil => exact absurd rfl hQ
  | cons f2 r2 =>
    have hlen : (f2 :: r2).length = r2.length + 1 := List.length_cons
    obtain ⟨h1, h2, h3, h4, h5, h6, h7⟩ := hS
    obtain ⟨⟨p1, p2, p3, p4, p5, p6⟩, p7⟩ := h6
    simp only [xs_let]
    rw [h1, hlen, nI_pred, ix101 (by omega), ix101 (by omega), ix101 (by omega), nI_clamp (by omega), show vp_nar .boolean (0 : Int32) = 0 by decide]
    have e23 : (xs_A (xs_A w 24 r2.length 5) 26 r2.length 0).2.2.1 23 r2.length = nI f2.1.2 := p1
    rw [e23, if_neg (nI_in (N := 8192) p2 (by decide)), nI_clamp (by omega), if_neg (show ¬ (nI r2.length < 0 ∨ 101 ≤ r2.length) from fun y => y.elim (nI_pos (by omega)) (by omega))]
    have e4 : (xs_A (xs_A w 24 r2.length 5) 26 r2.length 0).1 4 = u0.1 4 := hfw.1 4 (by decide)
    rw [e4]
    generalize hx : xs_A (xs_A (xs_A w 24 r2.length 5) 26 r2.length 0) 21 f2.1.2 (u0.1 4) = x
    have hfx : yf_fr [] [] [21, 24, 26] [] w x := by
      rw [← hx]
      exact yf_A (yf_A (yf_A yf_refl (by decide)) (by decide)) (by decide)
    have x24 : x.2.2.1 24 = upd (w.2.2.1 24) r2.length 5 := by rw [← hx]; rfl
    have x26 : x.2.2.1 26 = upd (w.2.2.1 26) r2.length 0 := by rw [← hx]; rfl
    have x21 : x.2.2.1 21 = upd (w.2.2.1 21) f2.1.2 (u0.1 4) := by rw [← hx]; rfl
    have xb : x.2.2.2 1 r2.length = yb_m f2.2.2.1 := by rw [hfx.2.2.2 1 (by decide)]; exact p4
    have hxE := yTM_fr hEw hfx (by decide)
    have hne : ¬ (f2.1, 5, f2.2.2.1, false, f2.2.2.2.2) :: r2 = [] := fun y => by cases y
    have hxS : mS T ((f2.1, 5, f2.2.2.1, false, f2.2.2.2.2) :: r2) x := by
      refine ⟨(hfx.1 22 (by decide)).trans h1, h2, (hfx.1 21 (by decide)).trans h3, h4, fun i c hc => ?_, ⟨⟨?_, p2, ?_, xb, ?_, ?_⟩, ?_⟩, ⟨h7.1, ⟨h7.2.1.1, h7.2.1.2.1, by show 5 < 10; decide⟩, h7.2.2⟩⟩
      · rw [hfx.2.2.1 22 (by decide)]; exact h5 i c hc
      · rw [hfx.2.2.1 23 (by decide)]; exact p1
      · show x.2.2.1 24 r2.length = nI 5
        rw [x24, ya_t]; rfl
      · rw [hfx.2.2.1 25 (by decide)]; exact p5
      · show x.2.2.1 26 r2.length = _
        rw [x26, ya_t]; rfl
      · refine sq_Am p7 fun j g b hj hp => ?_
        unfold mS_P
        rw [hfx.2.2.1 23 (by decide), x24, hfx.2.2.2 1 (by decide), hfx.2.2.1 25 (by decide), x26, ya_j (by omega), ya_j (by omega)]
        exact hp
    have x7 : x.1 7 = w.1 7 := hfx.1 7 (by decide)
    -- the innermost block, if it is right
    have hright : sq_over T (f :: r) = some (f2 :: r2) → f2 = sf_s f [] ∧ r2 = r := fun e => by
      have := sq_overS e
      injection this with a b
      exact ⟨a, b⟩
    have hxR : mR T ((sq_over T (f :: r)).bind fun Q' => match Q' with
        | [] => none
        | f :: r => some ((f.1, 5, f.2.2.1, false, []) :: r)) x := by
      refine ⟨_, hxS, hne, ?_⟩
      rcases hs with ⟨e, h7'⟩ | ⟨e, h7'⟩
      · obtain ⟨rfl, rfl⟩ := hright e
        exact Or.inl ⟨by rw [e]; rfl, x7.trans h7'⟩
      · exact Or.inr ⟨by rw [e]; rfl, x7.trans h7'⟩
    rw [xb]
    refine MC_seq (ml_bring (b := false) hfu (mK_0 hxE hxR) h7.2.1.1 h7.2.1.2.1) fun _ y hy => MC_ok ?_
    have fy : yf_fr [7, 21, 22] [] [20, 21, 22, 23, 24, 25, 26] [1] u0 y := yf_trans (yf_trans (yf_mono hfw (by decide)) (yf_mono hfx (by decide))) (yf_mono hy.2.2 (by decide))
    have y20 : y.2.2.1 20 = u0.2.2.1 20 := by rw [hy.2.2.2.2.1 20 (by decide), hfx.2.2.1 20 (by decide), hfw.2.2.1 20 (by decide)]
    have y21 : y.2.2.1 21 = upd (u0.2.2.1 21) f2.1.2 (u0.1 4) := by rw [hy.2.2.2.2.1 21 (by decide), x21, hfw.2.2.1 21 (by decide)]
    obtain ⟨-, ⟨Qy, hSy, hQy, hsy⟩, -⟩ := hy
    rcases hs with ⟨e, h7'⟩ | ⟨e, h7'⟩
    · obtain ⟨rfl, rfl⟩ := hright e
      refine ⟨⟨fy, ?_⟩, y20, fun _ => y21⟩
      have es : sq_else T (f :: r2) = ((sq_over T (f :: r2)).bind fun Q' => match Q' with
          | [] => none
          | f :: r => some ((f.1, 5, f.2.2.1, false, []) :: r)).bind (sq_pushes (sb_pr T false (sf_s f []).2.2.1)) := by
        unfold sq_else
        rw [e]; rfl
      rw [es]
      rcases hsy with ⟨a, b⟩ | ⟨a, b⟩
      · exact Or.inl ⟨Qy, a, b, hSy⟩
      · exact Or.inr ⟨a, b⟩
    · have es : sq_else T (f :: r) = none := by
        unfold sq_else
        rw [e]; rfl
      rw [es]
      have y7 : y.1 7 = 1 := by
        rcases hsy with ⟨a, b⟩ | ⟨a, b⟩
        · rw [e] at a; cases a
        · exact b
      exact ⟨⟨fy, Or.inr ⟨rfl, y7⟩⟩, y20, fun t => by rw [y7] at t; exact absurd t (by decide)⟩
end
