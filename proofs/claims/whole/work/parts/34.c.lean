section
variable {α β γ δ σ τ : Type} {B : Nat → Int32} {u v w u' v' : xk_St} {T : List (Nat × List Nat × List Nat)} {F : List Nat} {G : List (Nat × Nat × Nat × Int64)} {L : List Nat} {n fu tc mc lim p q len f D k tn j : Nat} {Q Q' Q1 Qn : List sFr} {z : Nat → Nat} {LL : Nat → List Nat} {AA : Nat → sBo} {tt : Nat → Nat} {a : sBo} {H H' : rH} {fs r : List rFr} {x : rFr} {y : Nat × sIn}
/-- only the innermost block has changed, and the rest of it can be come to -/
def sTq (Q Qn : List sFr) : Prop := ∃ f0 f1 q, Q = f0 :: q ∧ Qn = f1 :: q ∧ sSm f0 f1 ∧ f1.2.2.2.1 = false
theorem sTq_sg {ws cs : List Nat} {f : sFr} {r : List sFr} (h : sq_sg T ws cs (f :: r) = some Qn) (hd : f.2.2.2.1 = false) : sTq (f :: r) Qn := by
  obtain ⟨ds, s, a1, a2, a3, a4⟩ := sq_sgW h hd
  exact ⟨f, _, r, rfl, a4, ⟨rfl, rfl, rfl⟩, hd⟩
/-- the next instruction comes -/
theorem rx_next {Iu Ju Au Cu Iv Jv Av Cv : List Nat} (h : RX D B len T F tc mc G z LL AA tt H (x :: r) tn u v) (hy : rAt T F tc mc G z LL AA tt B len x y Qn u) (ht : sTq x.2.2 Qn) (hvw : yf_fr [4, 6, 8, 9, 10, 11, 23] [0, 1] [] [] v w) (hw4 : w.1 4 = nI (pq (AA x.1) (x.2.1 + 1))) (hw6 : w.1 6 = 0)
    (hu : yf_fr Iu Ju Au Cu (xs_I u 26 (nI (sEn' (z x.1) (AA x.1) x.2.1 + 1))) u') (hud : (yf_no [7, 10, 11, 12, 13, 23, 24, 25, 26] Iu && yf_no [2, 3, 4, 5, 6, 7, 8, 9, 10, 11, 12, 13, 14, 21, 22, 48, 49, 50] Au && yf_no [2] Cu) = true) (hv : yf_fr Iv Jv Av Cv w v') (hvd : (yf_no [3, 4, 5, 6, 12, 13, 14, 15, 18, 27, 28] Iv && yf_no [2] Jv && yf_no [1, 4, 5, 6, 7, 8, 9, 10, 12, 13, 14, 15, 20, 21, 30, 31, 32, 33, 34, 35, 36] Av) = true)
    (hRS : RS T H' (fW LL ((x.1, x.2.1 + 1, Qn) :: r)) u' v') (hRD : RD T F tc H' G u' v') (hu7 : u'.1 27 = 0) (hv9 : v'.1 29 = 0) : RX D B len T F tc mc G z LL AA tt H' ((x.1, x.2.1 + 1, Qn) :: r) tn u' v' := by
  obtain ⟨h1, h2, h3, h4, h5, h6, h7, h8, h9⟩ := h
  obtain ⟨t1, t2, t3, t4⟩ := h9 x r rfl
  obtain ⟨y1, y2, y3, y4, y5, y6, y7, y8, y9⟩ := hy
  have d1 := Bool.and_eq_true_iff.mp hud
  have d2 := Bool.and_eq_true_iff.mp d1.1
  have uI := fun k hk => hu.1 k (yf_nok d2.1 hk)
  have e1 := Bool.and_eq_true_iff.mp hvd
  have e2 := Bool.and_eq_true_iff.mp e1.1
  have vI := fun k hk => hv.1 k (yf_nok e2.1 hk)
  have uI' : ∀ k, k ∈ [7, 10, 11, 12, 13, 23, 24, 25] → u'.1 k = u.1 k := fun k hk => by
    rw [uI k (by simp at hk ⊢; omega)]
    show (if k = 26 then _ else u.1 k) = u.1 k
    rw [if_neg (by simp at hk; omega)]
  -- frames from u and v on
  have hU : yf_fr (26 :: Iu) Ju Au Cu u u' := by
    refine ⟨fun k hk => ?_, hu.2.1, hu.2.2.1, hu.2.2.2⟩
    rw [hu.1 k (fun y => hk (List.mem_cons_of_mem _ y))]
    show (if k = 26 then _ else u.1 k) = u.1 k
    rw [if_neg (fun y => hk (by rw [y]; exact List.mem_cons_self))]
  have hV : yf_fr ([4, 6, 8, 9, 10, 11, 23] ++ Iv) ([0, 1] ++ Jv) Av Cv v v' := by
    refine ⟨fun k hk => ?_, fun k hk => ?_, fun k hk => ?_, fun k hk => ?_⟩
    · rw [hv.1 k (fun y => hk (List.mem_append.mpr (Or.inr y))), hvw.1 k (fun y => hk (List.mem_append.mpr (Or.inl y)))]
    · rw [hv.2.1 k (fun y => hk (List.mem_append.mpr (Or.inr y))), hvw.2.1 k (fun y => hk (List.mem_append.mpr (Or.inl y)))]
    · rw [hv.2.2.1 k hk, hvw.2.2.1 k (by simp)]
    · rw [hv.2.2.2 k hk, hvw.2.2.2 k (by simp)]
  have no_sub : ∀ {K K' M : List Nat}, yf_no K M = true → (∀ k, k ∈ K' → k ∈ K) → yf_no K' M = true := fun h1 h2 => List.all_eq_true.mpr fun k hk => List.all_eq_true.mp h1 k (h2 k hk)
  have no_app : ∀ {K M M' : List Nat}, yf_no K M = true → yf_no K M' = true → yf_no K (M' ++ M) = true := fun {K M M'} h1 h2 => List.all_eq_true.mpr fun k hk => by
    have a := List.all_eq_true.mp h1 k hk
    have b := List.all_eq_true.mp h2 k hk
    simp at a b ⊢
    exact ⟨b, a⟩
  obtain ⟨f0, f1, q, q1, q2, q3, q4⟩ := ht
  have hst1 := rSt_fu h1 hU (Bool.and_eq_true_iff.mpr ⟨Bool.and_eq_true_iff.mpr ⟨no_app (M' := [26]) (no_sub d2.1 (by simp)) (by decide), no_sub d2.2 (by simp)⟩, d1.2⟩)
  have hst2 := rSt_fv hst1 hV (Bool.and_eq_true_iff.mpr ⟨no_app (no_sub e2.1 (by simp)) (by decide), no_sub e1.2 (by simp)⟩)
  have hF1 := RF_fu hU (no_sub d2.2 (K' := [48, 49, 50]) (by simp)) h3
  have hF2 := RF_fv hV (no_sub e1.2 (K' := [20, 30, 31, 32, 33, 34, 35, 36]) (by simp)) hF1
  refine ⟨hst2, hRS, ⟨?_, hF2.2⟩, ?_, hRD, ⟨?_, ?_, h6.2.2.1, ?_⟩, ⟨?_, ?_, h7.2.2⟩, ⟨hu7, hv9, ?_, ?_⟩, fun x' r' e => ?_⟩
  · obtain ⟨a1, a2, a3, a4, a5, a6, a7⟩ := hF2.1
    refine ⟨a1, a2, a3, a4, ?_, ⟨a6.1, ?_, ?_, y9⟩, a7⟩
    · show rW T z AA x.1 Qn (fV r) (fN LL r + (LL x.1).length) v'
      rw [q1] at a5
      rw [q2]
      exact rW_tp a5 q3
    · show ¬ Qn = []
      rw [q2]; exact fun y => by cases y
    · intro d g hd
      have hd : Qn[d]? = some g := hd
      rw [q2] at hd
      cases d with
      | zero => cases hd; exact q4
      | succ d => exact a6.2.2.1 (d + 1) g (by rw [q1]; exact hd)
  · cases r with
    | nil => exact trivial
    | cons x2 r2 => exact ⟨h4.1, h4.2⟩
  · rw [uI' 24 (by simp)]; exact h6.1
  · rw [vI 27 (by simp), hvw.1 27 (by decide)]; exact h6.2.1
  · rw [vI 28 (by simp), hvw.1 28 (by decide), h6.2.2.2]
    show nI (fV r + x.2.2.length) = nI (fV r + Qn.length)
    rw [q1, q2, List.length_cons, List.length_cons]
  · rw [uI' 23 (by simp)]; exact h7.1
  · rw [hv.2.1 2 (yf_nok e2.2 (by simp)), hvw.2.1 2 (by decide)]; exact h7.2.1
  · rw [vI 6 (by simp)]; exact hw6
  · rw [vI 5 (by simp), hvw.1 5 (by decide)]; exact h8.2.2.2
  · cases e
    refine ⟨?_, ?_, ?_, y4⟩
    · rw [uI 26 (by simp)]
      rfl
    · rw [uI' 25 (by simp)]; exact t2
    · rw [vI 4 (by simp)]; exact hw4
/-- what lasts beyond a run -/
def RL (D : Nat) (B : Nat → Int32) (len : Nat) (T : List (Nat × List Nat × List Nat)) (F : List Nat) (tc mc : Nat) (G : List (Nat × Nat × Nat × Int64)) (z : Nat → Nat) (LL : Nat → List Nat) (AA : Nat → sBo) (tt : Nat → Nat) (H : rH) (tn : Nat) (u v : xk_St) : Prop := rSt D B len T F tc mc G z LL AA tt u v ∧ RD T F tc H G u v ∧ u.1 23 = nI tn ∧ v.2.1 2 = lN tn ∧ tn < 2 ^ 31
/-- what a pair of steps may come to: on, or the same trap, or the last call has ended with results of types R -/
def RZ (D : Nat) (B : Nat → Int32) (len : Nat) (T : List (Nat × List Nat × List Nat)) (F : List Nat) (tc mc : Nat) (G : List (Nat × Nat × Nat × Int64)) (z : Nat → Nat) (LL : Nat → List Nat) (AA : Nat → sBo) (tt : Nat → Nat) (P : List rFr → Nat → Prop) (R : List Nat) (ou ov : Option (Unit × xk_St)) : Prop := ∃ u' v', ou = some ((), u') ∧ ov = some ((), v') ∧ ((∃ H fs tn, RX D B len T F tc mc G z LL AA tt H fs tn u' v' ∧ P fs tn) ∨ (∃ H tn t, 0 < t ∧ t < 20 ∧ u'.1 27 = nI t ∧ v'.1 29 = nI t ∧ RL D B len T F tc mc G z LL AA tt H tn u' v') ∨ (∃ H tn, u'.1 27 = 0 ∧ v'.1 29 = 0 ∧ u'.1 24 = 0 ∧ v'.1 27 = 0 ∧ RS T H R u' v' ∧ RL D B len T F tc mc G z LL AA tt H tn u' v'))
/-- frames are enough for what lasts -/
theorem rl_fr (h : RX D B len T F tc mc G z LL AA tt H fs tn u v) {I J A C I' J' A' C' : List Nat} (hu : yf_fr I J A C u u') (hud : (yf_no [7, 10, 11, 12, 13, 23, 29, 30, 32, 33, 34] I && yf_no [2, 3, 4, 5, 6, 7, 8, 9, 10, 11, 12, 13, 14, 16, 21, 22, 38, 39, 40, 41, 42, 43, 44, 46, 47] A && yf_no [2, 11, 12] C) = true) (hv : yf_fr I' J' A' C' v v') (hvd : (yf_no [3, 12, 13, 14, 15, 16, 17, 18, 24, 32, 34] I' && yf_no [2] J' && yf_no [1, 4, 5, 6, 7, 8, 9, 10, 12, 13, 14, 15, 20, 21, 27, 28, 37, 38, 39, 42] A' && yf_no [2, 5] C') = true) : RL D B len T F tc mc G z LL AA tt H tn u' v' := by
  have d1 := Bool.and_eq_true_iff.mp hud
  have d2 := Bool.and_eq_true_iff.mp d1.1
  have e0 := Bool.and_eq_true_iff.mp hvd
  have e1 := Bool.and_eq_true_iff.mp e0.1
  have e2 := Bool.and_eq_true_iff.mp e1.1
  have no_sub : ∀ {K K' M : List Nat}, yf_no K M = true → (∀ k, k ∈ K' → k ∈ K) → yf_no K' M = true := fun h1 h2 => List.all_eq_true.mpr fun k hk => List.all_eq_true.mp h1 k (h2 k hk)
  have h7 := h.2.2.2.2.2.2.1
  refine ⟨?_, ?_, ?_, ?_, h7.2.2⟩
  · refine rSt_fv (rSt_fu h.1 hu ?_) hv ?_
    · exact Bool.and_eq_true_iff.mpr ⟨Bool.and_eq_true_iff.mpr ⟨no_sub d2.1 (by simp), no_sub d2.2 (by simp)⟩, no_sub d1.2 (by simp)⟩
    · exact Bool.and_eq_true_iff.mpr ⟨no_sub e2.1 (by simp), no_sub e1.2 (by simp)⟩
  · refine RD_fv (RD_fu h.2.2.2.2.1 hu ?_) hv ?_
    · exact Bool.and_eq_true_iff.mpr ⟨Bool.and_eq_true_iff.mpr ⟨no_sub d2.1 (by simp), no_sub d2.2 (by simp)⟩, no_sub d1.2 (by simp)⟩
    · exact Bool.and_eq_true_iff.mpr ⟨Bool.and_eq_true_iff.mpr ⟨no_sub e2.1 (by simp), no_sub e1.2 (by simp)⟩, no_sub e0.2 (by simp)⟩
  · rw [hu.1 23 (yf_nok d2.1 (by simp))]; exact h7.1
  · rw [hv.2.1 2 (yf_nok e2.2 (by simp))]; exact h7.2.1
/-- an instruction on the stack alone -/
theorem rz_simple {ou ov : Option (Unit × xk_St)} {P : List rFr → Nat → Prop} {R : List Nat} (h : RX D B len T F tc mc G z LL AA tt H (x :: r) tn u v) (hy : rAt T F tc mc G z LL AA tt B len x y Qn u) (ht : sTq x.2.2 Qn) (hvw : yf_fr [4, 6, 8, 9, 10, 11, 23] [0, 1] [] [] v w) (hw4 : w.1 4 = nI (pq (AA x.1) (x.2.1 + 1))) (hw6 : w.1 6 = 0) (hP : P ((x.1, x.2.1 + 1, Qn) :: r) tn)
    (ho : RO T H (fW LL ((x.1, x.2.1 + 1, Qn) :: r)) (xs_I u 26 (nI (sEn' (z x.1) (AA x.1) x.2.1 + 1))) w ou ov) : RZ D B len T F tc mc G z LL AA tt P R ou ov := by
  obtain ⟨u', v', o1, o2, o3, o4, o5⟩ := ho
  have hU : yf_fr [26, 27, 28] [] [37] [10] u u' := yf_trans (yf_I yf_refl (by decide)) (yf_mono o3 (by decide))
  have hV : yf_fr [4, 6, 8, 9, 10, 11, 23, 26, 29] [0, 1] [29] [3] v v' := yf_trans (yf_mono hvw (by decide)) (yf_mono o4 (by decide))
  have hL := rl_fr h hU (by decide) hV (by decide)
  refine ⟨u', v', o1, o2, ?_⟩
  rcases o5 with ⟨a1, a2, a3⟩ | ⟨t, t0, t1, t2, t3⟩
  · exact Or.inl ⟨H, _, tn, rx_next h hy ht hvw hw4 hw6 o3 (by decide) o4 (by decide) a3 hL.2.1 a1 a2, hP⟩
  · exact Or.inr (Or.inl ⟨H, tn, t, t0, t1, t2, t3, hL⟩)
/-- an instruction that can only trap -/
theorem rz_trap {t : Nat} {P : List rFr → Nat → Prop} {R : List Nat} (h : RX D B len T F tc mc G z LL AA tt H (x :: r) tn u v) (hvw : yf_fr [4, 6, 8, 9, 10, 11, 23] [0, 1] [] [] v w) (h0 : 0 < t) (h20 : t < 20) {k : Int32} : RZ D B len T F tc mc G z LL AA tt P R (some ((), xs_I (xs_I u 26 k) 27 (nI t))) (some ((), xs_I w 29 (nI t))) := by
  have hU : yf_fr [26, 27] [] [] [] u (xs_I (xs_I u 26 k) 27 (nI t)) := yf_I (yf_I yf_refl (by decide)) (by decide)
  have hV : yf_fr [4, 6, 8, 9, 10, 11, 23, 29] [0, 1] [] [] v (xs_I w 29 (nI t)) := yf_I (yf_mono hvw (by decide)) (by decide)
  exact ⟨_, _, rfl, rfl, Or.inr (Or.inl ⟨H, tn, t, h0, h20, rfl, rfl, rl_fr h hU (by decide) hV (by decide)⟩)⟩
end
