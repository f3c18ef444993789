section
variable {α β γ δ σ τ : Type} {u v w : xk_St} {g : Nat → Nat} {T : List (Nat × List Nat × List Nat)} {n fu : Nat} {Q Q' : List sFr}
/-- the class has checked what s says, or found it wrong -/
def HC (o : Option ((β ⊕ Nat) × xk_St)) (s : Option σ) (J : σ → Option ((β ⊕ Nat) × xk_St) → Prop) : Prop := (∃ a, s = some a ∧ J a o) ∨ (s = none ∧ ∃ v, o = some (.inr 0, v))
def HJ (I : σ → β → xk_St → Prop) (a : σ) (o : Option ((β ⊕ Nat) × xk_St)) : Prop := ∃ b v, o = some (.inl b, v) ∧ I a b v
theorem HC_try {o : Option ((β ⊕ Nat) × xk_St)} {s : Option σ} {I : σ → β → xk_St → Prop} {f : β → xk_St → Option ((γ ⊕ Nat) × xk_St)} {k : σ → Option τ} {J : τ → Option ((γ ⊕ Nat) × xk_St) → Prop} (h : HC o s (HJ I)) (h2 : ∀ a b v, s = some a → I a b v → HC (f b v) (k a) J) : HC (xs_try o f) (s.bind k) J := by
  rcases h with ⟨a, rfl, b, v, rfl, hI⟩ | ⟨rfl, v, rfl⟩
  · exact h2 a b v rfl hI
  · exact Or.inr ⟨rfl, v, rfl⟩
theorem HC_ok {o : Option ((β ⊕ Nat) × xk_St)} {a : σ} {J : σ → Option ((β ⊕ Nat) × xk_St) → Prop} (h : J a o) : HC o (some a) J := Or.inl ⟨a, rfl, h⟩
theorem HC_no {J : σ → Option ((β ⊕ Nat) × xk_St) → Prop} : HC (some (.inr 0, v)) none J := Or.inr ⟨rfl, v, rfl⟩
theorem HC_bind {o : Option ((β ⊕ Nat) × xk_St)} {s : Option σ} {k : σ → Option τ} {J : σ → Option ((β ⊕ Nat) × xk_St) → Prop} {J' : τ → Option ((β ⊕ Nat) × xk_St) → Prop} (h : HC o s J) (h2 : ∀ a, s = some a → J a o → HC o (k a) J') : HC o (s.bind k) J' := by
  rcases h with ⟨a, rfl, h⟩ | ⟨rfl, v, rfl⟩
  · exact h2 a rfl h
  · exact Or.inr ⟨rfl, v, rfl⟩
theorem HC_mono {o : Option ((β ⊕ Nat) × xk_St)} {s : Option σ} {J J' : σ → Option ((β ⊕ Nat) × xk_St) → Prop} (h : HC o s J) (h2 : ∀ a, s = some a → J a o → J' a o) : HC o s J' := by
  rcases h with ⟨a, rfl, h⟩ | h
  · exact Or.inl ⟨a, rfl, h2 a rfl h⟩
  · exact Or.inr h
theorem xs_ifp {P : Prop} {o : Option α} (h : P) : xs_if P o = o := if_pos h
theorem xs_ifn {P : Prop} {o : Option α} (h : ¬ P) : xs_if P o = none := if_neg h
/-- need: what is asked for, told by a number -/
theorem HC_need {P : Prop} {x : Int32} {f : Unit → xk_St → Option ((γ ⊕ Nat) × xk_St)} {s : Option τ} {J : τ → Option ((γ ⊕ Nat) × xk_St) → Prop} (hp : P → x = 1) (hn : ¬ P → x = 0) (h : P → HC (f () u) s J) : HC (xs_try (fm_Checker_need x u) f) (xs_if P s) J := by
  by_cases z : P
  · rw [hp z, xs_ifp z]; exact h z
  · rw [hn z, xs_ifn z]; exact Or.inr ⟨rfl, u, rfl⟩
/-- the types, as the class has them when bodies are checked -/
def yCe (T : List (Nat × List Nat × List Nat)) (u : xk_St) : Prop := yTh T u ∧ yV1 T ∧ ∀ i, i < T.length → u.2.2.1 5 i = nI (yl_f T i)
theorem yCe_fr {I J A C : List Nat} (h : yCe T v) (hf : yf_fr I J A C v w) (hd : (yf_no [7] I && yf_no [2, 3, 4, 5, 6] A) = true) : yCe T w := by
  have hd2 := Bool.and_eq_true_iff.mp hd
  refine ⟨yTh_fr h.1 hf ?_, h.2.1, fun i hi => ?_⟩
  · refine Bool.and_eq_true_iff.mpr ⟨hd2.1, List.all_eq_true.mpr fun k hk => ?_⟩
    have := List.all_eq_true.mp hd2.2 k (by simp at hk ⊢; omega)
    exact this
  · rw [hf.2.2.1 5 (yf_nok hd2.2 (by simp))]; exact h.2.2 i hi
def sh_op (o : Nat) : Nat := if o = 0 then 6 else if o = 5 then 4 else o
/-- an open block as the class notes it -/
def sH_P (T : List (Nat × List Nat × List Nat)) (u : xk_St) (j : Nat) (f : sFr) (b : Nat) : Prop := u.2.2.1 34 j = nI f.1.1 ∧ u.2.2.1 35 j = (if f.2.2.2.1 then 1 else 0) ∧ u.2.2.1 10 f.1.1 = nI b ∧ u.2.2.2 2 f.1.1 = lN (sb_lab T f).length ∧ u.2.2.1 8 f.1.1 = nI (yb_h f.2.2.1) ∧ u.2.2.1 7 f.1.1 = nI (sh_op f.2.1) ∧ f.1.1 < 8192
/-- the state of the check as the class has it -/
def sH (T : List (Nat × List Nat × List Nat)) (Q : List sFr) (u : xk_St) : Prop := u.1 21 = nI Q.length ∧ Q.length ≤ 100 ∧ u.1 19 = nI (sq_h Q) ∧ sq_h Q ≤ 100 ∧ u.1 20 = nI (sq_h Q.tail) ∧ (∀ (i : Nat) c, (sq_f Q)[i]? = some c → u.2.2.1 33 i = nI (yu c)) ∧ sq_A (sH_P T u) Q ∧ sq_ok T Q
theorem sH_P_fr {I J A C : List Nat} {j b : Nat} {f : sFr} (h : sH_P T v j f b) (hf : yf_fr I J A C v w) (hd : (yf_no [7, 8, 10, 34, 35] A && yf_no [2] C) = true) : sH_P T w j f b := by
  have hd := Bool.and_eq_true_iff.mp hd
  unfold sH_P
  rw [hf.2.2.1 34 (yf_nok hd.1 (by simp)), hf.2.2.1 35 (yf_nok hd.1 (by simp)), hf.2.2.1 10 (yf_nok hd.1 (by simp)), hf.2.2.1 8 (yf_nok hd.1 (by simp)), hf.2.2.1 7 (yf_nok hd.1 (by simp)), hf.2.2.2 2 (yf_nok hd.2 (by simp))]
  exact h
/-- the blocks stay while the stack changes -/
theorem sq_As {P : Nat → sFr → Nat → Prop} {f : sFr} {r : List sFr} {s : List Nat} (h : sq_A P (f :: r)) (hP : ∀ j b, P j f b → P j (sf_s f s) b) : sq_A P (sf_s f s :: r) := ⟨hP _ _ h.1, h.2⟩
theorem sH_Ps {j b : Nat} {f : sFr} {s : List Nat} (h : sH_P T u j f b) : sH_P T u j (sf_s f s) b := h
theorem yvs_0 : yvs n 0 := Or.inr (Or.inl (by decide))
/-- a value is taken off -/
theorem hc_pop (h : sH T Q u) (hQ : ¬ Q = []) : HC (fm_Checker_pop_ u) (sq_pop Q) (HJ fun x b v => b = nI (yu x.1) ∧ sH T x.2 v ∧ yf_fr [19] [] [33] [] u v ∧ yvs T.length x.1) := by
  obtain ⟨h1, h2, h3, h4, h5, h6, h7, h8⟩ := h
  cases Q with
  | nil => exact absurd rfl hQ
  | cons f r =>
    have hlen : (f :: r).length = r.length + 1 := List.length_cons
    have hsum : sq_h (f :: r) = f.2.2.2.2.length + sq_h r := rfl
    unfold fm_Checker_pop_
    simp only [xs_let]
    rw [h3, h5]
    cases hs : f.2.2.2.2 with
    | nil =>
      have hl : (f :: r).length - 1 < 100 := by omega
      rw [sq_pop_0 hs, if_pos (show nI (sq_h (f :: r)) ≤ nI (sq_h (f :: r).tail) from nI_le (by rw [hsum, hs]; exact Nat.le_of_eq (Nat.zero_add _)) (by show sq_h r < 2 ^ 31; omega)), h1, hlen, nI_pred, if_neg (nI_in (N := 100) (by omega) (by decide)), nI_clamp (by omega), h7.1.2.1]
      by_cases hd : f.2.2.2.1 = true
      · rw [if_pos hd, if_pos hd, if_neg (by decide)]
        refine HC_ok ⟨0, u, rfl, rfl, ⟨h1, h2, h3, h4, h5, h6, h7, h8⟩, yf_refl, yvs_0⟩
      · rw [if_neg hd, if_neg hd, if_pos rfl]
        exact HC_no
    | cons c s =>
      have hfl : sq_f (f :: r) = sq_f (sf_s f s :: r) ++ [c] := by
        show sq_f r ++ f.2.2.2.2.reverse = (sq_f r ++ s.reverse) ++ [c]
        rw [hs, List.reverse_cons, List.append_assoc]
      have hh : sq_h (f :: r) = sq_h (sf_s f s :: r) + 1 := by
        show f.2.2.2.2.length + sq_h r = s.length + sq_h r + 1
        rw [hs, List.length_cons]; omega
      have hlt : sq_h r < sq_h (f :: r) := by rw [hsum, hs, List.length_cons]; omega
      rw [sq_pop_c hs, if_neg (show ¬ nI (sq_h (f :: r)) ≤ nI (sq_h (f :: r).tail) from nI_ge hlt (by omega)), hh, nI_pred]
      have hget : (sq_f (f :: r))[sq_h (sf_s f s :: r)]? = some c := by
        rw [hfl, List.getElem?_append_right (by rw [sq_fl]; exact Nat.le_refl _), sq_fl, Nat.sub_self]; rfl
      have ev : (xs_I u 19 (nI (sq_h (sf_s f s :: r)))).1 19 = nI (sq_h (sf_s f s :: r)) := rfl
      rw [ev, if_neg (nI_in (N := 100) (by omega) (by decide)), nI_clamp (by omega)]
      have e33 : (xs_I u 19 (nI (sq_h (sf_s f s :: r)))).2.2.1 33 (sq_h (sf_s f s :: r)) = nI (yu c) := h6 _ c hget
      rw [e33]
      have hfr : yf_fr [19] [] [33] [] u (xs_I u 19 (nI (sq_h (sf_s f s :: r)))) := yf_I yf_refl (by decide)
      refine HC_ok ⟨_, _, rfl, rfl, ⟨h1, h2, rfl, (show sq_h (sf_s f s :: r) ≤ 100 by omega), h5, fun i d hd => ?_, ⟨sH_P_fr (sH_Ps h7.1) hfr (by decide), sq_Am h7.2 fun j f b _ hp => sH_P_fr hp hfr (by decide)⟩, ⟨fun i d hd => ?_, h8.2.1, h8.2.2⟩⟩, hfr, sq_okF h8 _ c hget⟩
      · refine h6 i d ?_
        rw [hfl, List.getElem?_append_left (yl_lt hd)]; exact hd
      · refine h8.1 (i + 1) d ?_
        rw [hs]; exact hd
theorem sq_push_c {c : Nat} {f : sFr} {r : List sFr} : sq_push c (f :: r) = if sq_h (f :: r) = 100 then none else some (sf_s f (c :: f.2.2.2.2) :: r) := rfl
/-- a value is laid on -/
theorem hc_push {c : Nat} (h : sH T Q u) (hQ : ¬ Q = []) (hc : yvs T.length c) : HC (fm_Checker_push (nI (yu c)) u) (sq_push c Q) (HJ fun Q' _ v => sH T Q' v ∧ yf_fr [19] [] [33] [] u v) := by
  obtain ⟨h1, h2, h3, h4, h5, h6, h7, h8⟩ := h
  cases Q with
  | nil => exact absurd rfl hQ
  | cons f r =>
    have n1 : fm_Checker_need 1 u = some (.inl (), u) := if_neg (by decide)
    have n0 : fm_Checker_need 0 u = some (.inr 0, u) := if_pos rfl
    have hsum : sq_h (f :: r) = f.2.2.2.2.length + sq_h r := rfl
    unfold fm_Checker_push jb_Checker_push_14
    rw [sq_push_c, n0, n1, ys_tryl, ys_tryr, h3]
    by_cases hf : sq_h (f :: r) = 100
    · rw [if_pos hf, if_pos (show (100 : Int32) ≤ nI (sq_h (f :: r)) from nI_le (a := 100) (by omega) (by omega))]
      exact HC_no
    · rw [if_neg hf, if_neg (show ¬ (100 : Int32) ≤ nI (sq_h (f :: r)) from nI_ge (b := 100) (by omega) (by decide)), if_neg (nI_in (N := 100) (by omega) (by decide)), nI_clamp (by omega)]
      simp only [xs_let]
      have e19 : (xs_A u 33 (sq_h (f :: r)) (nI (yu c))).1 19 = nI (sq_h (f :: r)) := h3
      rw [e19, nI_1]
      have hfr : yf_fr [19] [] [33] [] u (xs_I (xs_A u 33 (sq_h (f :: r)) (nI (yu c))) 19 (nI (sq_h (f :: r) + 1))) := yf_I (yf_A yf_refl (by decide)) (by decide)
      have hfl : sq_f (sf_s f (c :: f.2.2.2.2) :: r) = sq_f (f :: r) ++ [c] := by
        show sq_f r ++ (c :: f.2.2.2.2).reverse = (sq_f r ++ f.2.2.2.2.reverse) ++ [c]
        rw [List.reverse_cons, List.append_assoc]
      have hh : sq_h (sf_s f (c :: f.2.2.2.2) :: r) = sq_h (f :: r) + 1 := by
        show (c :: f.2.2.2.2).length + sq_h r = f.2.2.2.2.length + sq_h r + 1
        rw [List.length_cons]; omega
      refine HC_ok ⟨_, _, rfl, ⟨h1, h2, by rw [hh]; rfl, by omega, h5, fun i d hd => ?_, ⟨sH_P_fr (sH_Ps h7.1) hfr (by decide), sq_Am h7.2 fun j f b _ hp => sH_P_fr hp hfr (by decide)⟩, ⟨fun i d hd => ?_, h8.2.1, h8.2.2⟩⟩, hfr⟩
      · rw [hfl] at hd
        show upd (u.2.2.1 33) (sq_h (f :: r)) (nI (yu c)) i = _
        rcases yl_snoc hd with ⟨z1, z2⟩ | ⟨z1, rfl⟩
        · rw [sq_fl] at z1
          rw [ya_j (by omega)]; exact h6 i d z2
        · rw [z1, sq_fl, ya_t]
      · have hd : (c :: f.2.2.2.2)[i]? = some d := hd
        cases i with
        | zero => cases hd; exact hc
        | succ i => exact h8.1 i d hd
/-- a value of a type is taken off -/
theorem hc_take {x : Nat} (he : yCe T u) (h : sH T Q u) (hQ : ¬ Q = []) (hx : yvw T.length x) : HC (fm_Checker_pop_I (nI (yu x)) u) (sq_take (yl_f T) x Q) (HJ fun Q' _ v => sH T Q' v ∧ yf_fr [19] [] [33] [] u v) := by
  unfold fm_Checker_pop_I sq_take
  refine HC_try (hc_pop h hQ) fun a b v e1 hI => ?_
  obtain ⟨rfl, k1, k2, k3⟩ := hI
  have he2 : yCe T v := yCe_fr he k2 (by decide)
  obtain ⟨m1, m2⟩ := hh_fits (T := T) (u := v) (t := a.1) (x := x) (g := yl_f T) he2.1.2.1 (yvs_t k3) hx he2.2.2 (yl_fle (yV_ah he2.1 he2.2.1))
  by_cases z : yfit (yl_f T) a.1 x
  · rw [m1 z, ys_seq, xs_ifp z]
    exact HC_ok ⟨(), v, rfl, k1, k2⟩
  · rw [m2 z, ys_seq, xs_ifn z]
    exact HC_no
/-- a reference is taken off -/
theorem hc_popR (h : sH T Q u) (hQ : ¬ Q = []) : HC (fm_Checker_popReference u) (sq_popR Q) (HJ fun x b v => b = nI (if x.1 = 0 then 20 else yu x.1) ∧ sH T x.2 v ∧ yf_fr [19] [] [33] [] u v ∧ yvs T.length x.1 ∧ (x.1 = 0 ∨ 16 ≤ x.1)) := by
  unfold fm_Checker_popReference sq_popR
  refine HC_try (hc_pop h hQ) fun a b v e1 hI => ?_
  obtain ⟨rfl, k1, k2, k3⟩ := hI
  have n1 : fm_Checker_need 1 v = some (.inl (), v) := if_neg (by decide)
  have n0 : fm_Checker_need 0 v = some (.inr 0, v) := if_pos rfl
  by_cases z0 : a.1 = 0
  · rw [z0, if_pos (show nI (yu 0) = (0 : Int32) from rfl), xs_ifp (Or.inl rfl)]
    exact HC_ok ⟨_, v, rfl, by rw [z0]; rfl, k1, k2, k3, Or.inl z0⟩
  · have hy : ¬ nI (yu a.1) = (0 : Int32) ∧ (nI (yu a.1) < 16 ↔ a.1 < 16) := by
      rcases k3 with y | y | y
      · rw [y]; exact ⟨by decide, by decide⟩
      · have : a.1 = 1 ∨ a.1 = 2 := by omega
        rcases this with z | z <;> rw [z] <;> exact ⟨by decide, by decide⟩
      · have := y.2.1
        rw [yu_h this, yq_r a.1 this]
        refine ⟨fun q => ?_, Iff.rfl⟩
        have hh : yv_h a.1 < 2 ^ 31 := by unfold yv_h; split <;> omega
        have := (nI_eq (b := 0) hh (by decide)).mp q
        unfold yv_h at this
        split at this <;> omega
    rw [if_neg hy.1]
    unfold fm_Types_isReference
    by_cases z16 : a.1 < 16
    · rw [if_pos (hy.2.mpr z16), ys_seq, n0, ys_tryr, xs_ifn (by omega)]
      exact HC_no
    · rw [if_neg (fun q => z16 (hy.2.mp q)), ys_seq, n1, ys_tryl, xs_ifp (Or.inr (by omega))]
      exact HC_ok ⟨_, v, rfl, by rw [if_neg z0], k1, k2, k3, Or.inr (by omega)⟩
end
