section
variable {α β γ δ σ τ : Type} {u v w u0 : xk_St} {g : Nat → Nat} {T : List (Nat × List Nat × List Nat)} {n fu : Nat} {Q Q' : List sFr} {s : Option (List sFr)}
/-- an open block as the reference notes it -/
def mS_P (v : xk_St) (j : Nat) (f : sFr) (b : Nat) : Prop := v.2.2.1 23 j = nI f.1.2 ∧ f.1.2 < 8192 ∧ v.2.2.1 24 j = nI f.2.1 ∧ v.2.2.2 1 j = yb_m f.2.2.1 ∧ v.2.2.1 25 j = nI b ∧ v.2.2.1 26 j = (if f.2.2.2.1 then 1 else 0)
/-- the state of the check as the reference has it -/
def mS (T : List (Nat × List Nat × List Nat)) (Q : List sFr) (v : xk_St) : Prop := v.1 22 = nI Q.length ∧ Q.length ≤ 100 ∧ v.1 21 = nI (sq_h Q) ∧ sq_h Q ≤ 100 ∧ (∀ (i : Nat) c, (sq_f Q)[i]? = some c → v.2.2.1 22 i = nI c) ∧ sq_A (mS_P v) Q ∧ sq_ok T Q
theorem mS_P_fr {I J A C : List Nat} {j b : Nat} {f : sFr} (h : mS_P v j f b) (hf : yf_fr I J A C v w) (hd : (yf_no [23, 24, 25, 26] A && yf_no [1] C) = true) : mS_P w j f b := by
  have hd := Bool.and_eq_true_iff.mp hd
  unfold mS_P
  rw [hf.2.2.1 23 (yf_nok hd.1 (by simp)), hf.2.2.1 24 (yf_nok hd.1 (by simp)), hf.2.2.1 25 (yf_nok hd.1 (by simp)), hf.2.2.1 26 (yf_nok hd.1 (by simp)), hf.2.2.2 1 (yf_nok hd.2 (by simp))]
  exact h
theorem mS_fr {I J A C : List Nat} (h : mS T Q v) (hf : yf_fr I J A C v w) (hd : (yf_no [21, 22] I && yf_no [22, 23, 24, 25, 26] A && yf_no [1] C) = true) : mS T Q w := by
  have hd' := Bool.and_eq_true_iff.mp hd
  have hd1 := Bool.and_eq_true_iff.mp hd'.1
  obtain ⟨h1, h2, h3, h4, h5, h6, h7⟩ := h
  refine ⟨(hf.1 22 (yf_nok hd1.1 (by simp))).trans h1, h2, (hf.1 21 (yf_nok hd1.1 (by simp))).trans h3, h4, fun i c hc => ?_, sq_Am h6 fun j f b _ hp => mS_P_fr hp hf ?_, h7⟩
  · rw [hf.2.2.1 22 (yf_nok hd1.2 (by simp))]; exact h5 i c hc
  · refine Bool.and_eq_true_iff.mpr ⟨List.all_eq_true.mpr fun k hk => List.all_eq_true.mp hd1.2 k (by simp at hk ⊢; omega), hd'.2⟩
/-- the check is right and at Q, or it is wrong; in any case it can go on -/
def mR (T : List (Nat × List Nat × List Nat)) (s : Option (List sFr)) (v : xk_St) : Prop := ∃ Q, mS T Q v ∧ ¬ Q = [] ∧ ((s = some Q ∧ v.1 7 = 0) ∨ (s = none ∧ v.1 7 = 1))
/-- the same, with a value that was taken -/
def mRv (T : List (Nat × List Nat × List Nat)) (s : Option (Nat × List sFr)) (c : Nat) (v : xk_St) : Prop := ∃ Q, mS T Q v ∧ ¬ Q = [] ∧ ((s = some (c, Q) ∧ v.1 7 = 0) ∨ (s = none ∧ v.1 7 = 1))
def MC (o : Option (β × xk_St)) (P : β → xk_St → Prop) : Prop := ∃ r v, o = some (r, v) ∧ P r v
theorem MC_seq {o : Option (β × xk_St)} {f : β → xk_St → Option (γ × xk_St)} {P : β → xk_St → Prop} {P' : γ → xk_St → Prop} (h : MC o P) (h2 : ∀ r v, P r v → MC (f r v) P') : MC (xs_seq o f) P' := by
  obtain ⟨r, v, rfl, hp⟩ := h
  exact h2 r v hp
theorem MC_ok {r : β} {P : β → xk_St → Prop} (h : P r v) : MC (some (r, v)) P := ⟨r, v, rfl, h⟩
theorem MC_mono {o : Option (β × xk_St)} {P P' : β → xk_St → Prop} (h : MC o P) (h2 : ∀ r v, P r v → P' r v) : MC o P' := by
  obtain ⟨r, v, e, hp⟩ := h
  exact ⟨r, v, e, h2 r v hp⟩
theorem ix101 {k : Nat} {o : Option (α × xk_St)} (hk : k < 101) : (if nI k < 0 ∨ 101 ≤ (nI k).toNatClampNeg then none else o) = o := if_neg (nI_in (N := 101) hk (by decide))
/-- a value is taken off -/
theorem mr_pop (h : mR T s v) : MC (fm_Model_pop v) fun b w => ∃ c, b = nI c ∧ yvs T.length c ∧ mRv T (s.bind sq_pop) c w ∧ yf_fr [7, 21] [] [] [] v w := by
  obtain ⟨Q, hS, hQ, hs⟩ := h
  have hS0 := hS
  obtain ⟨h1, h2, h3, h4, h5, h6, h7⟩ := hS
  cases Q with
  | nil => exact absurd rfl hQ
  | cons f r =>
    have hlen : (f :: r).length = r.length + 1 := List.length_cons
    have hsum : sq_h (f :: r) = f.2.2.2.2.length + sq_h r := rfl
    unfold fm_Model_pop jb_Model_pop_40
    simp only [xs_let]
    rw [h1, hlen, nI_pred, ix101 (by omega), nI_clamp (by omega), h6.1.2.2.2.2.1, h3]
    have hI : ∀ x, mS T (f :: r) (xs_I v 7 x) := fun x => mS_fr hS0 (yf_I (I := [7]) (J := []) (A := []) (B := []) yf_refl (by decide)) (by decide)
    have hfr : ∀ x, yf_fr [7, 21] [] [] [] v (xs_I v 7 x) := fun x => yf_I yf_refl (by decide)
    cases hst : f.2.2.2.2 with
    | nil =>
      have e0 : sq_h (f :: r) = sq_h r := by rw [hsum, hst]; exact Nat.zero_add _
      rw [if_pos (by rw [e0])]
      rcases hs with ⟨rfl, hs7⟩ | ⟨rfl, hs7⟩
      · rw [if_pos hs7, if_neg (show ¬ (nI r.length < 0 ∨ 101 ≤ r.length) from fun y => y.elim (nI_pos (by omega)) (by omega)), h6.1.2.2.2.2.2]
        by_cases hd : f.2.2.2.1 = true
        · rw [if_pos hd, if_neg (by decide)]
          exact MC_ok ⟨0, rfl, yvs_0, ⟨f :: r, hI 0, hQ, Or.inl ⟨(by show sq_pop (f :: r) = _; rw [sq_pop_0 hst, if_pos hd]), rfl⟩⟩, hfr 0⟩
        · rw [if_neg hd, if_pos rfl]
          exact MC_ok ⟨0, rfl, yvs_0, ⟨f :: r, hI 1, hQ, Or.inr ⟨(by show sq_pop (f :: r) = _; rw [sq_pop_0 hst, if_neg hd]), rfl⟩⟩, hfr 1⟩
      · rw [if_neg (by rw [hs7]; decide)]
        exact MC_ok ⟨0, rfl, yvs_0, ⟨f :: r, hI 1, hQ, Or.inr ⟨rfl, rfl⟩⟩, hfr 1⟩
    | cons c st =>
      have hh : sq_h (f :: r) = sq_h (sf_s f st :: r) + 1 := by
        show f.2.2.2.2.length + sq_h r = st.length + sq_h r + 1
        rw [hst, List.length_cons]; omega
      have hlt : sq_h r < sq_h (f :: r) := by rw [hsum, hst, List.length_cons]; omega
      have hfl : sq_f (f :: r) = sq_f (sf_s f st :: r) ++ [c] := by
        show sq_f r ++ f.2.2.2.2.reverse = (sq_f r ++ st.reverse) ++ [c]
        rw [hst, List.reverse_cons, List.append_assoc]
      have hget : (sq_f (f :: r))[sq_h (sf_s f st :: r)]? = some c := by
        rw [hfl, List.getElem?_append_right (by rw [sq_fl]; exact Nat.le_refl _), sq_fl, Nat.sub_self]; rfl
      rw [if_neg (fun y => by have := (nI_eq (by omega) (by omega)).mp y; omega), hh, nI_pred]
      have e21 : (xs_I v 21 (nI (sq_h (sf_s f st :: r)))).1 21 = nI (sq_h (sf_s f st :: r)) := rfl
      rw [e21, ix101 (by omega), nI_clamp (by omega)]
      have hv22 : (xs_I v 21 (nI (sq_h (sf_s f st :: r)))).2.2.1 22 (sq_h (sf_s f st :: r)) = nI c := h5 _ c hget
      rw [hv22]
      have hne : ¬ sf_s f st :: r = [] := fun z => by cases z
      have hnew : mS T (sf_s f st :: r) (xs_I v 21 (nI (sq_h (sf_s f st :: r)))) := by
        refine ⟨h1, h2, rfl, by omega, fun i d hd => ?_, ⟨h6.1, h6.2⟩, ⟨fun i d hd => ?_, h7.2.1, h7.2.2⟩⟩
        · refine h5 i d ?_
          rw [hfl, List.getElem?_append_left (by have := yl_lt hd; exact this)]
          exact hd
        · refine h7.1 (i + 1) d ?_
          rw [hst]
          exact hd
      refine MC_ok ⟨c, rfl, sq_okF h7 _ c hget, ⟨sf_s f st :: r, hnew, hne, ?_⟩, yf_I yf_refl (by decide)⟩
      rcases hs with ⟨rfl, hs7⟩ | ⟨rfl, hs7⟩
      · exact Or.inl ⟨(by show sq_pop (f :: r) = _; rw [sq_pop_c hst]), hs7⟩
      · exact Or.inr ⟨rfl, hs7⟩
theorem mRv_R {sv : Option (Nat × List sFr)} {c : Nat} (h : mRv T sv c v) : mR T (sv.bind fun x => some x.2) v := by
  obtain ⟨Q, h1, h2, h3⟩ := h
  refine ⟨Q, h1, h2, ?_⟩
  rcases h3 with ⟨rfl, h7⟩ | ⟨rfl, h7⟩
  · exact Or.inl ⟨rfl, h7⟩
  · exact Or.inr ⟨rfl, h7⟩
/-- a value comes -/
theorem mr_push {c : Nat} (h : mR T s v) (hc : yvs T.length c) : MC (fm_Model_push (nI c) v) fun _ w => mR T (s.bind (sq_push c)) w ∧ yf_fr [7, 21] [] [22] [] v w := by
  obtain ⟨Q, hS, hQ, hs⟩ := h
  have hS0 := hS
  obtain ⟨h1, h2, h3, h4, h5, h6, h7⟩ := hS
  cases Q with
  | nil => exact absurd rfl hQ
  | cons f r =>
    unfold fm_Model_push
    simp only [xs_let]
    rw [h3]
    have c100 : nI (sq_h (f :: r)) = (100 : Int32) ↔ sq_h (f :: r) = 100 := nI_eq (b := 100) (by omega) (by omega)
    by_cases z : sq_h (f :: r) = 100
    · rw [if_pos (c100.mpr z)]
      refine MC_ok ⟨⟨f :: r, mS_fr hS0 (yf_I (I := [7]) (J := []) (A := []) (B := []) yf_refl (by decide)) (by decide), hQ, Or.inr ⟨?_, rfl⟩⟩, yf_I yf_refl (by decide)⟩
      rcases hs with ⟨rfl, -⟩ | ⟨rfl, -⟩
      · show sq_push c (f :: r) = none
        rw [sq_push_c, if_pos z]
      · rfl
    · rw [if_neg (fun y => z (c100.mp y)), ix101 (by omega), nI_clamp (by omega)]
      have e21 : (xs_A v 22 (sq_h (f :: r)) (nI c)).1 21 = nI (sq_h (f :: r)) := h3
      rw [e21, nI_1]
      have hfl : sq_f (sf_s f (c :: f.2.2.2.2) :: r) = sq_f (f :: r) ++ [c] := by
        show sq_f r ++ (c :: f.2.2.2.2).reverse = (sq_f r ++ f.2.2.2.2.reverse) ++ [c]
        rw [List.reverse_cons, List.append_assoc]
      have hh : sq_h (sf_s f (c :: f.2.2.2.2) :: r) = sq_h (f :: r) + 1 := by
        show (c :: f.2.2.2.2).length + sq_h r = f.2.2.2.2.length + sq_h r + 1
        rw [List.length_cons]; omega
      have hne : ¬ sf_s f (c :: f.2.2.2.2) :: r = [] := fun z => by cases z
      have hnew : mS T (sf_s f (c :: f.2.2.2.2) :: r) (xs_I (xs_A v 22 (sq_h (f :: r)) (nI c)) 21 (nI (sq_h (f :: r) + 1))) := by
        refine ⟨h1, h2, by rw [hh]; rfl, by omega, fun i d hd => ?_, ⟨h6.1, h6.2⟩, ⟨fun i d hd => ?_, h7.2.1, h7.2.2⟩⟩
        · show upd (v.2.2.1 22) (sq_h (f :: r)) (nI c) i = _
          rw [hfl] at hd
          have hl := yl_lt hd
          rw [List.length_append, List.length_singleton, sq_fl] at hl
          by_cases zi : i = sq_h (f :: r)
          · subst zi
            rw [List.getElem?_append_right (by rw [sq_fl]; exact Nat.le_refl _), sq_fl, Nat.sub_self] at hd
            cases hd
            exact ya_t
          · rw [List.getElem?_append_left (by rw [sq_fl]; omega)] at hd
            rw [ya_j zi]
            exact h5 i d hd
        · cases i with
          | zero => cases hd; exact hc
          | succ i => exact h7.1 i d hd
      refine MC_ok ⟨⟨_, hnew, hne, ?_⟩, yf_I (yf_A yf_refl (by decide)) (by decide)⟩
      rcases hs with ⟨rfl, hs7⟩ | ⟨rfl, hs7⟩
      · refine Or.inl ⟨?_, hs7⟩
        show sq_push c (f :: r) = _
        rw [sq_push_c, if_neg z]
      · exact Or.inr ⟨rfl, hs7⟩
/-- a value of a type is taken off -/
theorem mr_take {x : Nat} (hE : yTM T v) (h : mR T s v) (hx : yvw T.length x) : MC (fm_Model_take (nI x) v) fun _ w => mR T (s.bind (sq_take (yl_f T) x)) w ∧ yf_fr [7, 21] [] [] [] v w := by
  unfold fm_Model_take jb_Model_take_20
  refine MC_seq (mr_pop h) fun b w hb => ?_
  obtain ⟨c, rfl, hc, ⟨Q, hS, hQ, hs⟩, hf⟩ := hb
  have hEw := yTM_fr hE hf (by decide)
  obtain ⟨m1, m2⟩ := mm_fits (T := T) (u := w) (t := c) (x := x) (g := yl_f T) hE.2.1.1 (yvs_t hc) hx hEw.2.2.2 (yl_fle (yTM_ah hE))
  have hsp : ∀ Q0, s = some Q0 → sq_pop Q0 = some (c, Q) → s.bind (sq_take (yl_f T) x) = xs_if (yfit (yl_f T) c x) (some Q) := fun Q0 e1 e2 => by
    rw [e1]
    show (sq_pop Q0).bind _ = _
    rw [e2]; rfl
  have hno : s.bind sq_pop = none → s.bind (sq_take (yl_f T) x) = none := fun e => by
    cases s with
    | none => rfl
    | some Q0 =>
      have e : sq_pop Q0 = none := e
      show (sq_pop Q0).bind _ = _
      rw [e]; rfl
  have hI : ∀ y, mS T Q (xs_I w 7 y) := fun y => mS_fr hS (yf_I (I := [7]) (J := []) (A := []) (B := []) yf_refl (by decide)) (by decide)
  have hfr : ∀ y, yf_fr [7, 21] [] [] [] v (xs_I w 7 y) := fun y => yf_I hf (by decide)
  simp only [xs_let]
  by_cases zf : yfit (yl_f T) c x
  · rw [m1 zf, ys_seq, if_neg (show ¬ (1 : Int32) = 0 by decide)]
    rcases hs with ⟨e, h7⟩ | ⟨e, h7⟩
    · rw [if_pos h7]
      obtain ⟨Q0, e1, e2⟩ := Option.bind_eq_some_iff.mp e
      exact MC_ok ⟨⟨Q, hI 0, hQ, Or.inl ⟨by rw [hsp Q0 e1 e2, xs_ifp zf], rfl⟩⟩, hfr 0⟩
    · rw [if_neg (by rw [h7]; decide)]
      exact MC_ok ⟨⟨Q, hI 1, hQ, Or.inr ⟨hno e, rfl⟩⟩, hfr 1⟩
  · rw [m2 zf, ys_seq, if_pos rfl]
    refine MC_ok ⟨⟨Q, hI 1, hQ, Or.inr ⟨?_, rfl⟩⟩, hfr 1⟩
    rcases hs with ⟨e, h7⟩ | ⟨e, h7⟩
    · obtain ⟨Q0, e1, e2⟩ := Option.bind_eq_some_iff.mp e
      rw [hsp Q0 e1 e2, xs_ifn zf]
    · exact hno e
end
