section
variable {α β γ δ σ τ : Type} {u v w u0 : xk_St} {g : Nat → Nat} {T : List (Nat × List Nat × List Nat)} {F : List Nat} {G : List (Nat × Nat × Nat × Int64)} {L : List Nat} {n fu tc mc : Nat} {Q Q' : List sFr} {s : Option (List sFr)}
/-- the innermost block is over, by the reference: what it brings lies there and nothing else -/
theorem ml_over (hfu : 200 ≤ fu) (h : mK T u0 (some Q) v) : MC (fm_Model_isOver fu v) fun _ w => mK T u0 (sq_over T Q) w := by
  obtain ⟨hE, ⟨Q0, hS, hQ, hs⟩, hf⟩ := id h
  have hQ0 : Q = Q0 := by
    rcases hs with ⟨e, -⟩ | ⟨e, -⟩
    · cases e; rfl
    · cases e
  subst hQ0
  cases Q with
  | nil => exact absurd rfl hQ
  | cons f r =>
    have hF := mS_get (d := 0) hS rfl
    have hlen : (f :: r).length = r.length + 1 := List.length_cons
    rw [hlen, Nat.add_sub_cancel, Nat.sub_zero] at hF
    have h6 := hF.2.2.2.2.2
    unfold fm_Model_isOver jb_Model_isOver_39
    simp only [xs_let]
    rw [hS.1, hlen, nI_pred, ix101 (by omega), nI_clamp (by omega), hF.2.1]
    refine MC_seq (ml_takeAll (b := true) hfu h hF.2.2.1 hF.2.2.2.1) fun _ w hw => ?_
    -- the state behind: only the innermost block's part of the stack is less
    have hw0 := hw
    obtain ⟨hEw, ⟨Qw, hSw, hQw, hsw⟩, hfw⟩ := hw
    have hsp : sq_over T (f :: r) = (sq_takes (yl_f T) (sb_pr T true f.2.2.1).reverse (f :: r)).bind fun Q' => xs_if (sq_h Q' = sq_h Q'.tail) (some Q') := rfl
    have hl : Qw.length = r.length + 1 := by
      have e1 := hSw.1
      have e2 : w.1 22 = v.1 22 := by rw [hfw.1 22 (by decide), ← hf.1 22 (by decide)]
      rw [e2, hS.1, hlen] at e1
      exact ((nI_eq (by omega) (by have := hSw.2.1; omega)).mp e1).symm
    cases Qw with
    | nil => exact absurd rfl hQw
    | cons f2 r2 =>
      have hr2 : r2.length = r.length := by rw [List.length_cons] at hl; omega
      have hb2 : w.2.2.1 25 r.length = nI (sq_h r2) := by rw [← hr2]; exact hSw.2.2.2.2.2.1.1.2.2.2.2.1
      have hh : w.1 21 = nI (sq_h (f2 :: r2)) := hSw.2.2.1
      have hh4 := hSw.2.2.2.1
      have hle : sq_h r2 ≤ sq_h (f2 :: r2) := Nat.le_add_left _ _
      have ceq : w.1 21 = w.2.2.1 25 r.length ↔ sq_h (f2 :: r2) = sq_h r2 := by rw [hh, hb2]; exact nI_eq (by omega) (by omega)
      have hI : ∀ y, mS T (f2 :: r2) (xs_I w 7 y) := fun y => mS_fr hSw (yf_I (I := [7]) (J := []) (A := []) (B := []) yf_refl (by decide)) (by decide)
      have hEI : ∀ y, yTM T (xs_I w 7 y) := fun y => yTM_fr hEw (yf_I (I := [7]) (J := []) (A := []) (B := []) yf_refl (by decide)) (by decide)
      have hfI : ∀ y, yf_fr [7, 21] [] [22] [] u0 (xs_I w 7 y) := fun y => yf_I hfw (by decide)
      rcases hsw with ⟨e, h7⟩ | ⟨e, h7⟩
      · rw [if_pos h7, if_neg (show ¬ (nI r.length < 0 ∨ 101 ≤ r.length) from fun y => y.elim (nI_pos (by omega)) (by omega))]
        have e : sq_takes (yl_f T) (sb_pr T true f.2.2.1).reverse (f :: r) = some (f2 :: r2) := e
        by_cases z : sq_h (f2 :: r2) = sq_h r2
        · rw [if_pos (ceq.mpr z)]
          refine MC_ok ⟨hEI 0, ⟨f2 :: r2, hI 0, hQw, Or.inl ⟨?_, rfl⟩⟩, hfI 0⟩
          rw [hsp, e]
          exact xs_ifp z
        · rw [if_neg (fun y => z (ceq.mp y))]
          refine MC_ok ⟨hEI 1, ⟨f2 :: r2, hI 1, hQw, Or.inr ⟨?_, rfl⟩⟩, hfI 1⟩
          rw [hsp, e]
          exact xs_ifn z
      · rw [if_neg (by rw [h7]; decide)]
        have e : sq_takes (yl_f T) (sb_pr T true f.2.2.1).reverse (f :: r) = none := e
        refine MC_ok ⟨hEI 1, ⟨f2 :: r2, hI 1, hQw, Or.inr ⟨?_, rfl⟩⟩, hfI 1⟩
        rw [hsp, e]; rfl
end
