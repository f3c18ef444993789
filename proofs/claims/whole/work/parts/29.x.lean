section
variable {α β γ δ σ τ : Type} {u v w u0 : xk_St} {g : Nat → Nat} {T : List (Nat × List Nat × List Nat)} {F : List Nat} {G : List (Nat × Nat × Nat × Int64)} {L : List Nat} {n fu tc mc : Nat} {Q Q' : List sFr} {s : Option (List sFr)}
theorem ml_62n {t : Option Nat ⊕ Int64} {b1 : Int32} (hk : sb_ok T t) (hr : sb_rd t) (hE : yTM T v) (h7 : v.1 7 = 1) : jb_Model_checkEnd_62 fu (n + 1) b1 (yb_m t) 0 v = jb_Model_checkEnd_118 fu b1 (yb_m t) v := by
  unfold jb_Model_checkEnd_62
  simp only [xs_let]
  rw [show fm_Model_countOf (yb_m t) (0 : Int32) v = _ from mb_count (b := false) hE hk hr, ys_seq]
  split
  · rfl
  · rw [if_neg (by rw [h7]; decide)]
/-- 0x0b, by the reference -/
theorem ml_end {f : sFr} {r : List sFr} (hfu : 200 ≤ fu) (h : mK T u0 (some (f :: r)) v) : MC (fm_Model_checkEnd fu v) fun _ w => mO3 T u0 (sq_end T (f :: r)) w ∧ w.2.2.1 21 = u0.2.2.1 21 ∧ (w.1 7 = 0 → w.2.2.1 20 = upd (u0.2.2.1 20) f.1.2 (u0.1 4)) := by
  unfold fm_Model_checkEnd
  refine MC_seq (ml_over hfu h) fun _ w hw => ?_
  obtain ⟨hE, ⟨Qw, hS, hQ, hs⟩, hf⟩ := hw
  cases Qw with
  | nil => exact absurd rfl hQ
  | cons f2 r2 =>
    have hS0 := hS
    have hlen : (f2 :: r2).length = r2.length + 1 := List.length_cons
    obtain ⟨h1, h2, h3, h4, h5, h6, h8⟩ := hS
    simp only [xs_let]
    rw [h1, hlen, nI_pred, ix101 (by omega), ix101 (by omega), nI_clamp (by omega), h6.1.2.2.2.1, h6.1.2.2.1]
    have ho := h8.2.1.2.2
    have hk := h8.2.1.1
    have hr := h8.2.1.2.1
    have c4 : nI f2.2.1 = (4 : Int32) ↔ f2.2.1 = 4 := nI_eq (b := 4) (by omega) (by decide)
    -- the rest, with the flag as it was set
    have go : ∀ (x : xk_St), yf_fr [7] [] [] [] w x → ((w.1 7 = 0 ∧ x.1 7 = 0 ∧ (f2.2.1 = 4 → sb_same T f2.2.2.1)) ∨ (x.1 7 = 1 ∧ (w.1 7 = 0 → ¬ (f2.2.1 = 4 → sb_same T f2.2.2.1)))) → MC (jb_Model_checkEnd_118 fu (nI r2.length) (yb_m f2.2.2.1) x) fun _ w => mO3 T u0 (sq_end T (f :: r)) w ∧ w.2.2.1 21 = u0.2.2.1 21 ∧ (w.1 7 = 0 → w.2.2.1 20 = upd (u0.2.2.1 20) f.1.2 (u0.1 4)) := fun x hx hc => by
      have hxE := yTM_fr hE hx (by decide)
      have hxS := mS_fr hS0 hx (by decide)
      have hright : w.1 7 = 0 → sq_over T (f :: r) = some (f2 :: r2) ∧ f2 = sf_s f [] ∧ r2 = r := fun w7 => by
        rcases hs with ⟨e, -⟩ | ⟨-, y⟩
        · have := sq_overS e
          injection this with a b
          exact ⟨e, a, b⟩
        · rw [y] at w7; exact absurd w7 (by decide)
      have hst : (x.1 7 = 0 ∧ f2.2.2.2.2 = []) ∨ x.1 7 = 1 := by
        rcases hc with ⟨a, b, -⟩ | ⟨a, -⟩
        · exact Or.inl ⟨b, by rw [(hright a).2.1]; rfl⟩
        · exact Or.inr a
      refine MC_mono (ml_118 hfu hxE hxS hst) fun _ y hy => ?_
      obtain ⟨y1, y2, y3⟩ := hy
      have fy : yf_fr [7, 21, 22] [] [20, 21, 22, 23, 24, 25, 26] [1] u0 y := yf_trans (yf_trans (yf_mono hf (by decide)) (yf_mono hx (by decide))) (yf_mono y1 (by decide))
      have y21 : y.2.2.1 21 = u0.2.2.1 21 := by rw [y1.2.2.1 21 (by decide), hx.2.2.1 21 (by decide), hf.2.2.1 21 (by decide)]
      have y20 : y.2.2.1 20 = upd (u0.2.2.1 20) f2.1.2 (u0.1 4) := by rw [y2, hx.2.2.1 20 (by decide), hf.2.2.1 20 (by decide), hx.1 4 (by decide), hf.1 4 (by decide)]
      rcases hc with ⟨w7, x7, hsm⟩ | ⟨x7, hsm⟩
      · obtain ⟨e1, e2, e3⟩ := hright w7
        have es : sq_end T (f :: r) = sq_out T f2.2.2.1 r2 := by
          unfold sq_end
          rw [e1]
          show xs_if (f2.2.1 = 4 → sb_same T f2.2.2.1) (sq_out T f2.2.2.1 r2) = _
          exact xs_ifp hsm
        rw [es]
        have ef : f2.1.2 = f.1.2 := by rw [e2]; rfl
        rw [ef] at y20
        rcases y3 with ⟨-, y3⟩ | ⟨y3, -⟩
        · exact ⟨⟨fy, y3⟩, y21, fun _ => y20⟩
        · rw [x7] at y3; exact absurd y3 (by decide)
      · have es : sq_end T (f :: r) = none := by
          unfold sq_end
          rcases hs with ⟨e, w7⟩ | ⟨e, -⟩
          · rw [e]
            exact xs_ifn (hsm w7)
          · rw [e]; rfl
        rw [es]
        have y7 : y.1 7 = 1 := by
          rcases y3 with ⟨a, -⟩ | ⟨-, a⟩
          · rw [x7] at a; exact absurd a (by decide)
          · exact a
        exact ⟨⟨fy, Or.inr ⟨rfl, y7⟩⟩, y21, fun t => by rw [y7] at t; exact absurd t (by decide)⟩
    by_cases z4 : f2.2.1 = 4
    · rw [if_pos (c4.mpr z4)]
      have hEI : ∀ x, yTM T (xs_I w 7 x) := fun x => yTM_fr hE (yf_I (I := [7]) (J := []) (A := []) (B := []) yf_refl (by decide)) (by decide)
      have hfI : ∀ x, yf_fr [7] [] [] [] w (xs_I w 7 x) := fun x => yf_I yf_refl (by decide)
      obtain ⟨m, rfl⟩ : ∃ m, fu = m + 1 := ⟨fu - 1, by omega⟩
      have no : (w.1 7 = 0 → ¬ sb_same T f2.2.2.1) → MC (jb_Model_checkEnd_51 (m + 1) (nI r2.length) (yb_m f2.2.2.1) w) fun _ w => mO3 T u0 (sq_end T (f :: r)) w ∧ w.2.2.1 21 = u0.2.2.1 21 ∧ (w.1 7 = 0 → w.2.2.1 20 = upd (u0.2.2.1 20) f.1.2 (u0.1 4)) := fun hno => by
        unfold jb_Model_checkEnd_51 jb_Model_checkEnd_56
        simp only [xs_let]
        rw [if_pos (Or.inr trivial), ml_62n hk hr (hEI 1) rfl]
        exact go _ (hfI 1) (Or.inr ⟨rfl, fun a b => hno a (b z4)⟩)
      by_cases z7 : w.1 7 = 0
      · rw [if_pos z7, show fm_Model_countOf (yb_m f2.2.2.1) (0 : Int32) w = _ from mb_count (b := false) hE hk hr, ys_seq, show fm_Model_countOf (yb_m f2.2.2.1) (1 : Int32) w = _ from mb_count (b := true) hE hk hr, ys_seq]
        have la : (sb_pr T false f2.2.2.1).length ≤ 16 := (sb_prV (b := false) hE hk hr).1
        have lb : (sb_pr T true f2.2.2.1).length ≤ 16 := (sb_prV (b := true) hE hk hr).1
        have ceq : nI (sb_pr T false f2.2.2.1).length = nI (sb_pr T true f2.2.2.1).length ↔ (sb_par T f2.2.2.1).length = (sb_res T f2.2.2.1).length := nI_eq (by omega) (by omega)
        by_cases zc : (sb_par T f2.2.2.1).length = (sb_res T f2.2.2.1).length
        · rw [if_pos (ceq.mpr zc)]
          unfold jb_Model_checkEnd_56
          simp only [xs_let]
          rw [if_pos (Or.inl trivial)]
          have la : (sb_par T f2.2.2.1).length ≤ 16 := la
          obtain ⟨x, e, hx, hw⟩ := ml_62 (fu := m + 1) (b1 := nI r2.length) hk hr (Nat.le_of_eq zc) (sb_par T f2.2.2.1).length 0 (m + 1) (xs_I w 7 0) (by omega) (by omega) (hEI 0) rfl
          have e : jb_Model_checkEnd_62 (m + 1) (m + 1) (nI r2.length) (yb_m f2.2.2.1) (0 : Int32) (xs_I w 7 0) = _ := e
          rw [e]
          refine go x (yf_trans (hfI 0) hx) ?_
          rcases hw with ⟨x7, hw⟩ | ⟨x7, hw⟩
          · exact Or.inl ⟨z7, x7, fun _ => ⟨zc, fun i a b => hw i a b (Nat.zero_le _)⟩⟩
          · exact Or.inr ⟨x7, fun _ y => hw fun i a b _ => (y z4).2 i a b⟩
        · rw [if_neg (fun y => zc (ceq.mp y))]
          exact no fun _ y => zc y.1
      · rw [if_neg z7]
        exact no fun y => absurd y z7
    · rw [if_neg (fun y => z4 (c4.mp y))]
      refine go w yf_refl ?_
      rcases hs with ⟨e, w7⟩ | ⟨e, w7⟩
      · exact Or.inl ⟨w7, w7, fun y => absurd y z4⟩
      · exact Or.inr ⟨w7, fun y => by rw [w7] at y; exact absurd y (by decide)⟩
end
