section
variable {α β γ δ σ τ : Type} {u v w u0 : xk_St} {g : Nat → Nat} {T : List (Nat × List Nat × List Nat)} {F : List Nat} {G : List (Nat × Nat × Nat × Int64)} {L : List Nat} {n fu tc mc : Nat} {Q Q' : List sFr} {s : Option (List sFr)}
/-- a block is opened, by the reference -/
theorem mr_open {e p o : Nat} {t : Option Nat ⊕ Int64} (h : mR T s v) (h23 : v.1 23 = nI p) (hp : p < 8192) (ho : o < 10) (hk : sb_ok T t) (hr : sb_rd t) : MC (fm_Model_open (nI o) (yb_m t) v) fun _ w => mR T (s.bind (sq_open e p o t)) w ∧ yf_fr [7, 22] [] [23, 24, 25, 26] [1] v w := by
  obtain ⟨Q, hS, hQ, hs⟩ := h
  have hS0 := hS
  obtain ⟨h1, h2, h3, h4, h5, h6, h7⟩ := hS
  unfold fm_Model_open
  simp only [xs_let]
  rw [h1]
  have c100 : nI Q.length = (100 : Int32) ↔ Q.length = 100 := nI_eq (b := 100) (by omega) (by omega)
  by_cases z : Q.length = 100
  · rw [if_pos (c100.mpr z)]
    refine MC_ok ⟨⟨Q, mS_fr hS0 (yf_I (I := [7]) (J := []) (A := []) (B := []) yf_refl (by decide)) (by decide), hQ, Or.inr ⟨?_, rfl⟩⟩, yf_I yf_refl (by decide)⟩
    rcases hs with ⟨rfl, -⟩ | ⟨rfl, -⟩
    · show sq_open e p o t Q = none
      unfold sq_open
      rw [if_pos z]
    · rfl
  · rw [if_neg (fun y => z (c100.mp y)), ix101 (by omega), nI_clamp (by omega)]
    have a1 : (xs_A v 24 Q.length (nI o)).1 22 = nI Q.length := h1
    rw [a1, ix101 (by omega), nI_clamp (by omega)]
    have a2 : (xs_B (xs_A v 24 Q.length (nI o)) 1 Q.length (yb_m t)).1 22 = nI Q.length := h1
    have a2' : (xs_B (xs_A v 24 Q.length (nI o)) 1 Q.length (yb_m t)).1 23 = nI p := h23
    rw [a2, a2', ix101 (by omega), nI_clamp (by omega)]
    have a3 : (xs_A (xs_B (xs_A v 24 Q.length (nI o)) 1 Q.length (yb_m t)) 23 Q.length (nI p)).1 22 = nI Q.length := h1
    have a3' : (xs_A (xs_B (xs_A v 24 Q.length (nI o)) 1 Q.length (yb_m t)) 23 Q.length (nI p)).1 21 = nI (sq_h Q) := h3
    rw [a3, a3', ix101 (by omega), nI_clamp (by omega)]
    have a4 : (xs_A (xs_A (xs_B (xs_A v 24 Q.length (nI o)) 1 Q.length (yb_m t)) 23 Q.length (nI p)) 25 Q.length (nI (sq_h Q))).1 22 = nI Q.length := h1
    rw [a4, ix101 (by omega), nI_clamp (by omega), show vp_nar .boolean (0 : Int32) = 0 by decide]
    have a5 : (xs_A (xs_A (xs_A (xs_B (xs_A v 24 Q.length (nI o)) 1 Q.length (yb_m t)) 23 Q.length (nI p)) 25 Q.length (nI (sq_h Q))) 26 Q.length 0).1 22 = nI Q.length := h1
    rw [a5, nI_1]
    generalize hx : xs_I (xs_A (xs_A (xs_A (xs_B (xs_A v 24 Q.length (nI o)) 1 Q.length (yb_m t)) 23 Q.length (nI p)) 25 Q.length (nI (sq_h Q))) 26 Q.length 0) 22 (nI (Q.length + 1)) = x
    have hfr : yf_fr [7, 22] [] [23, 24, 25, 26] [1] v x := by
      rw [← hx]
      exact yf_I (yf_A (yf_A (yf_A (yf_B (yf_A yf_refl (by decide)) (by decide)) (by decide)) (by decide)) (by decide)) (by decide)
    have x24 : x.2.2.1 24 = upd (v.2.2.1 24) Q.length (nI o) := by rw [← hx]; rfl
    have x1 : x.2.2.2 1 = vp_updL (v.2.2.2 1) Q.length (yb_m t) := by rw [← hx]; rfl
    have x23 : x.2.2.1 23 = upd (v.2.2.1 23) Q.length (nI p) := by rw [← hx]; rfl
    have x25 : x.2.2.1 25 = upd (v.2.2.1 25) Q.length (nI (sq_h Q)) := by rw [← hx]; rfl
    have x26 : x.2.2.1 26 = upd (v.2.2.1 26) Q.length 0 := by rw [← hx]; rfl
    have x22 : x.1 22 = nI (Q.length + 1) := by rw [← hx]; rfl
    have x21 : x.1 21 = nI (sq_h Q) := (hfr.1 21 (by decide)).trans h3
    have hne : ¬ ((e, p), o, t, false, ([] : List Nat)) :: Q = [] := fun y => by cases y
    have hnew : mS T (((e, p), o, t, false, []) :: Q) x := by
      refine ⟨by rw [List.length_cons]; exact x22, by rw [List.length_cons]; omega, ?_, ?_, fun i c hc => ?_, ⟨⟨?_, hp, ?_, ?_, ?_, ?_⟩, ?_⟩, ⟨fun i c hc => by simp at hc, ⟨hk, hr, ho⟩, h7⟩⟩
      · show x.1 21 = nI (0 + sq_h Q)
        rw [Nat.zero_add]; exact x21
      · show 0 + sq_h Q ≤ 100
        omega
      · have hc : (sq_f Q ++ ([] : List Nat).reverse)[i]? = some c := hc
        rw [List.reverse_nil, List.append_nil] at hc
        rw [hfr.2.2.1 22 (by decide)]
        exact h5 i c hc
      · show x.2.2.1 23 Q.length = nI p
        rw [x23, ya_t]
      · show x.2.2.1 24 Q.length = nI o
        rw [x24, ya_t]
      · show x.2.2.2 1 Q.length = yb_m t
        rw [x1, yb_t]
      · show x.2.2.1 25 Q.length = nI (sq_h Q)
        rw [x25, ya_t]
      · show x.2.2.1 26 Q.length = _
        rw [x26, ya_t]; rfl
      · refine sq_Am h6 fun j f b hj hp => ?_
        unfold mS_P
        rw [x23, x24, x1, x25, x26, ya_j (by omega), ya_j (by omega), yb_j (by omega), ya_j (by omega), ya_j (by omega)]
        exact hp
    refine MC_ok ⟨⟨_, hnew, hne, ?_⟩, hfr⟩
    have x7 : x.1 7 = v.1 7 := by rw [← hx]; rfl
    rcases hs with ⟨rfl, hs7⟩ | ⟨rfl, hs7⟩
    · refine Or.inl ⟨?_, x7.trans hs7⟩
      show sq_open e p o t Q = _
      unfold sq_open
      rw [if_neg z]
    · exact Or.inr ⟨rfl, x7.trans hs7⟩
end
