section
variable {α β γ δ σ τ : Type} {u v w u0 u1 : xk_St} {g : Nat → Nat} {T : List (Nat × List Nat × List Nat)} {n fu : Nat} {Q Q' : List sFr}
theorem hk_popWay {f : sFr} {m : Nat} (hfu : 200 ≤ fu) (h : sK T u0 Q u) (hf : sFi T f u0) (hm : m ≤ (sb_lab T f).length) : HC (fm_Checker_popWay fu (nI f.1.1) (nI m) u) (sq_takes (yl_f T) ((sb_lab T f).take m).reverse Q) (sKJ T u0) :=
  HC_mono (hc_popWay hfu h.1 (sFi_fr hf h.2.2.2 (by decide)) hm h.2.1 h.2.2.1) fun _ _ ⟨b, v, e1, e2, e3, _⟩ => ⟨b, v, e1, sK_n h e2 e3⟩
theorem hk_pushWay {f : sFr} {m : Nat} (hfu : 200 ≤ fu) (h : sK T u0 Q u) (hf : sFi T f u0) (hm : m ≤ (sb_lab T f).length) : HC (fm_Checker_pushWay fu (nI f.1.1) (nI m) u) (sq_pushes ((sb_lab T f).take m) Q) (sKJ T u0) :=
  HC_mono (hc_pushWay hfu h.1 (sFi_fr hf h.2.2.2 (by decide)) hm h.2.1 h.2.2.1) fun _ _ ⟨b, v, e1, e2, e3, _⟩ => ⟨b, v, e1, sK_n h e2 e3⟩
theorem hk_wc {f : sFr} (h : sK T u0 Q u) (hf : sFi T f u0) : fm_Checker_wayCount (nI f.1.1) u = some (nI (sb_lab T f).length, u) := hc_wc (sFi_fr hf h.2.2.2 (by decide))
noncomputable def sq_br (T : List (Nat × List Nat × List Nat)) (d : Nat) (Q : List sFr) : Option (List sFr) := Q[d]?.bind fun f => (sq_takes (yl_f T) (sb_lab T f).reverse Q).bind fun Q1 => some (sq_lose Q1)
noncomputable def sq_brif (T : List (Nat × List Nat × List Nat)) (d : Nat) (Q : List sFr) : Option (List sFr) := (sq_take (yl_f T) 1 Q).bind fun Q1 => Q1[d]?.bind fun f => sq_sg T (sb_lab T f).reverse (sb_lab T f) Q1
noncomputable def sq_brn (T : List (Nat × List Nat × List Nat)) (d : Nat) (Q : List sFr) : Option (List sFr) := (sq_popR Q).bind fun x => x.2[d]?.bind fun f => (sq_sg T (sb_lab T f).reverse (sb_lab T f) x.2).bind fun Q2 => sq_push (sq_nn x.1) Q2
noncomputable def sq_brnn (T : List (Nat × List Nat × List Nat)) (d : Nat) (Q : List sFr) : Option (List sFr) := (sq_popR Q).bind fun x => x.2[d]?.bind fun f => (sb_lab T f)[(sb_lab T f).length - 1]?.bind fun w => xs_if (yfit (yl_f T) (sq_nn x.1) w) (sq_sg T ((sb_lab T f).take ((sb_lab T f).length - 1)).reverse ((sb_lab T f).take ((sb_lab T f).length - 1)) x.2)
noncomputable def sq_ret (T : List (Nat × List Nat × List Nat)) (Q : List sFr) : Option (List sFr) := Q[Q.length - 1]?.bind fun f => (sq_takes (yl_f T) (sb_lab T f).reverse Q).bind fun Q1 => some (sq_lose Q1)
/-- entry k notes the block that it leads to -/
def sBr (T : List (Nat × List Nat × List Nat)) (k d : Nat) (Q : List sFr) (u : xk_St) (Q' : List sFr) (v : xk_St) : Prop := sH T Q' v ∧ ¬ Q' = [] ∧ yf_fr [19] [] [9, 33, 35] [] u v ∧ ∃ f, Q[d]? = some f ∧ v.2.2.1 9 = upd (u.2.2.1 9) k (nI f.1.1)
theorem sq_tk {ws : List Nat} {d : Nat} {f : sFr} (h : Q'.map (fun f => f.1) = Q.map (fun f => f.1)) (hf : Q'[d]? = some f) : ∃ f', Q[d]? = some f' ∧ f'.1 = f.1 := by
  have h1 : (Q'.map fun f => f.1)[d]? = some f.1 := by rw [List.getElem?_map, hf]; rfl
  rw [h, List.getElem?_map] at h1
  cases hq : Q[d]? with
  | none => rw [hq] at h1; cases h1
  | some f' => rw [hq] at h1; exact ⟨f', rfl, Option.some.inj h1⟩
theorem sq_popE {x : Nat × List sFr} (h : sq_pop Q = some x) : x.2.map (fun f => f.1) = Q.map (fun f => f.1) := by
  rcases sq_popS (Q := Q) (c := x.1) (Q' := x.2) h with ⟨-, -, -, f, r, s, rfl, -, h2⟩ | ⟨-, h2, -⟩
  · rw [h2]; rfl
  · rw [h2]
theorem sq_popRE {x : Nat × List sFr} (h : sq_popR Q = some x) : x.2.map (fun f => f.1) = Q.map (fun f => f.1) := by
  unfold sq_popR at h
  cases hp : sq_pop Q with
  | none => rw [hp] at h; cases h
  | some y =>
    rw [hp] at h
    have h : xs_if (y.1 = 0 ∨ 16 ≤ y.1) (some y) = some x := h
    obtain ⟨-, h⟩ := xp_if h
    cases h
    exact sq_popE hp
/-- the branch as the check goes on from it: u1 has the note -/
theorem hk_branch {k d : Nat} (h : sK T u0 Q u) (hk : k < 8192) (h8 : u.2.2.1 8 k = nI (yn_c d)) : HC (fm_Checker_branch (nI k) u) Q[d]? (HJ fun f b v => b = nI f.1.1 ∧ v = xs_A u 9 k (nI f.1.1) ∧ sFi T f v ∧ sK T v Q v) := by
  refine HC_mono (hc_branch h.2.1 hk h8) fun f o hJ => ?_
  obtain ⟨b, v, e1, e2, rfl, e4, e5⟩ := hJ
  exact ⟨b, _, e1, e2, rfl, e4, yCe_fr h.1 (yf_A (I := []) (J := []) (A := [9]) (B := []) yf_refl (by decide)) (by decide), e5, h.2.2.1, yf_refl⟩
theorem sBr_of {k d : Nat} {f f' : sFr} {Q0 : List sFr} (hb : yf_fr [19] [] [33] [] u u1) (h : sK T (xs_A u1 9 k (nI f.1.1)) Q' v) (hf : Q0[d]? = some f') (hff : f'.1 = f.1) : sBr T k d Q0 u Q' v := by
  refine ⟨h.2.1, h.2.2.1, ?_, f', hf, ?_⟩
  · exact yf_trans (yf_A (yf_mono hb (by decide)) (by decide)) (yf_mono h.2.2.2 (by decide))
  · rw [h.2.2.2.2.2.1 9 (by decide), hff, ← hb.2.2.1 9 (by decide)]
    exact ys_Ag
theorem hk_lose {k d : Nat} (h : sBr T k d Q' u Q v) : ∃ w, fm_Checker_lose v = some ((), w) ∧ sBr T k d Q' u (sq_lose Q) w := by
  obtain ⟨h1, h2, h3, f, h4, h5⟩ := h
  obtain ⟨w, f1, f2, f3⟩ := hc_lose h1 h2
  refine ⟨w, f1, f2, ?_, yf_trans h3 (yf_mono f3 (by decide)), f, h4, ?_⟩
  · cases Q with
    | nil => exact absurd rfl h2
    | cons x r => exact fun z => by cases z
  · rw [f3.2.2.1 9 (by decide)]; exact h5
abbrev sBJ (T : List (Nat × List Nat × List Nat)) (k d : Nat) (Q : List sFr) (u : xk_St) : List sFr → Option ((Unit ⊕ Nat) × xk_St) → Prop := HJ fun Q' _ v => sBr T k d Q u Q' v
/-- 0x0c -/
theorem hk_br {k d : Nat} (hfu : 200 ≤ fu) (h : sK T u Q u) (hk : k < 8192) (h8 : u.2.2.1 8 k = nI (yn_c d)) : HC (xs_try (fm_Checker_branch (nI k) u) fun a8 u9 => xs_seq (fm_Checker_wayCount a8 u9) fun a10 u11 => xs_try (fm_Checker_popWay fu a8 a10 u11) fun _ u12 => xs_seq (fm_Checker_lose u12) fun _ u13 => some (.inl (), u13)) (sq_br T d Q) (sBJ T k d Q u) := by
  unfold sq_br
  refine HC_try (hk_branch h hk h8) fun f b v e1 hI => ?_
  obtain ⟨rfl, rfl, hf, h1⟩ := hI
  rw [hk_wc h1 hf, ys_seq]
  have := hk_popWay (m := (sb_lab T f).length) hfu h1 hf (Nat.le_refl _)
  rw [List.take_length] at this
  refine HC_try this fun Q1 _ v _ h2 => ?_
  obtain ⟨w, f1, f2⟩ := hk_lose (sBr_of (Q0 := Q) (d := d) yf_refl h2 e1 rfl)
  rw [f1, ys_seq]
  exact HC_ok ⟨(), w, rfl, f2⟩
/-- values that a way takes come back -/
theorem hk_ways {f : sFr} {m : Nat} {E : xk_St → Option ((Unit ⊕ Nat) × xk_St)} {J : List sFr → Option ((Unit ⊕ Nat) × xk_St) → Prop} (hfu : 200 ≤ fu) (h : sK T u0 Q u) (hf : sFi T f u0) (hm : m ≤ (sb_lab T f).length) (hE : ∀ Q' v, sK T u0 Q' v → HC (E v) (some Q') J) : HC (xs_try (fm_Checker_popWay fu (nI f.1.1) (nI m) u) fun _ v => xs_try (fm_Checker_pushWay fu (nI f.1.1) (nI m) v) fun _ w => E w) (sq_sg T ((sb_lab T f).take m).reverse ((sb_lab T f).take m) Q) J := by
  unfold sq_sg
  refine HC_try (hk_popWay hfu h hf hm) fun Q1 _ v _ h2 => ?_
  rw [show sq_pushes ((sb_lab T f).take m) Q1 = (sq_pushes ((sb_lab T f).take m) Q1).bind some by cases sq_pushes ((sb_lab T f).take m) Q1 <;> rfl]
  exact HC_try (hk_pushWay hfu h2 hf hm) fun Q2 _ v _ h3 => hE Q2 v h3
/-- 0x0d -/
theorem hk_brif {k d : Nat} (hfu : 200 ≤ fu) (h : sK T u Q u) (hk : k < 8192) (h8 : u.2.2.1 8 k = nI (yn_c d)) : HC (xs_try (fm_Checker_pop_I (1 : Int32) u) fun _ u14 => xs_try (fm_Checker_branch (nI k) u14) fun a15 u16 => xs_seq (fm_Checker_wayCount a15 u16) fun a17 u18 => xs_try (fm_Checker_popWay fu a15 a17 u18) fun _ u19 => xs_seq (fm_Checker_wayCount a15 u19) fun a20 u21 => xs_try (fm_Checker_pushWay fu a15 a20 u21) fun _ u22 => some (.inl (), u22)) (sq_brif T d Q) (sBJ T k d Q u) := by
  unfold sq_brif
  refine HC_try (hk_take (x := 1) h yvw_1) fun Q1 _ v e0 h1 => ?_
  refine HC_try (hk_branch h1 hk (by rw [h1.2.2.2.2.2.1 8 (by decide)]; exact h8)) fun f b w e1 hI => ?_
  obtain ⟨rfl, rfl, hf, h2⟩ := hI
  obtain ⟨f', q1, q2⟩ := sq_tk (ws := []) (sq_takeE e0) e1
  rw [hk_wc h2 hf, ys_seq]
  unfold sq_sg
  have hp := hk_popWay (m := (sb_lab T f).length) hfu h2 hf (Nat.le_refl _)
  rw [List.take_length] at hp
  refine HC_try hp fun Q2 _ w _ h3 => ?_
  rw [hk_wc h3 hf, ys_seq]
  have hq := hk_pushWay (m := (sb_lab T f).length) hfu h3 hf (Nat.le_refl _)
  rw [List.take_length] at hq
  refine HC_fin hq fun Q3 _ w _ h4 => ?_
  exact sBr_of h1.2.2.2 h4 q1 q2
/-- 0xd5 -/
theorem hk_brn {k d : Nat} (hfu : 200 ≤ fu) (h : sK T u Q u) (hk : k < 8192) (h8 : u.2.2.1 8 k = nI (yn_c d)) : HC (fm_Checker_checkReference fu (nI 213) (nI k) u) (sq_brn T d Q) (sBJ T k d Q u) := by
  unfold fm_Checker_checkReference sq_brn
  rw [if_neg (show ¬ nI 213 = (208 : Int32) by decide), if_neg (show ¬ nI 213 = (209 : Int32) by decide), if_neg (show ¬ nI 213 = (210 : Int32) by decide), if_neg (show ¬ nI 213 = (211 : Int32) by decide), if_neg (show ¬ nI 213 = (212 : Int32) by decide), if_pos (show nI 213 = (213 : Int32) from rfl)]
  refine HC_try (hk_popR h) fun x b v e0 hx => ?_
  obtain ⟨rfl, h1, x2, x3⟩ := hx
  rw [hk_nn x2 x3, ys_seq]
  refine HC_try (hk_branch h1 hk (by rw [h1.2.2.2.2.2.1 8 (by decide)]; exact h8)) fun f b w e1 hI => ?_
  obtain ⟨rfl, rfl, hf, h2⟩ := hI
  obtain ⟨f', q1, q2⟩ := sq_tk (ws := []) (sq_popRE e0) e1
  rw [hk_wc h2 hf, ys_seq]
  unfold sq_sg
  rw [Option.bind_assoc]
  have hp := hk_popWay (m := (sb_lab T f).length) hfu h2 hf (Nat.le_refl _)
  rw [List.take_length] at hp
  refine HC_try hp fun Q2 _ w _ h3 => ?_
  rw [hk_wc h3 hf, ys_seq]
  have hq := hk_pushWay (m := (sb_lab T f).length) hfu h3 hf (Nat.le_refl _)
  rw [List.take_length] at hq
  refine HC_try hq fun Q3 _ w _ h4 => ?_
  refine HC_fin (hk_push h4 (yvs_nn x2 x3)) fun Q4 _ w _ h5 => ?_
  exact sBr_of h1.2.2.2 h5 q1 q2
/-- 0xd6 -/
theorem hk_brnn {k d : Nat} (hfu : 200 ≤ fu) (h : sK T u Q u) (hk : k < 8192) (h8 : u.2.2.1 8 k = nI (yn_c d)) : HC (fm_Checker_checkReference fu (nI 214) (nI k) u) (sq_brnn T d Q) (sBJ T k d Q u) := by
  unfold fm_Checker_checkReference sq_brnn
  rw [if_neg (show ¬ nI 214 = (208 : Int32) by decide), if_neg (show ¬ nI 214 = (209 : Int32) by decide), if_neg (show ¬ nI 214 = (210 : Int32) by decide), if_neg (show ¬ nI 214 = (211 : Int32) by decide), if_neg (show ¬ nI 214 = (212 : Int32) by decide), if_neg (show ¬ nI 214 = (213 : Int32) by decide)]
  unfold jb_Checker_checkReference_164
  simp only [xs_let]
  refine HC_try (hk_popR h) fun x b v e0 hx => ?_
  obtain ⟨rfl, h1, x2, x3⟩ := hx
  rw [hk_nn x2 x3, ys_seq]
  refine HC_try (hk_branch h1 hk (by rw [h1.2.2.2.2.2.1 8 (by decide)]; exact h8)) fun f b w e1 hI => ?_
  obtain ⟨rfl, rfl, hf, h2⟩ := hI
  obtain ⟨f', q1, q2⟩ := sq_tk (ws := []) (sq_popRE e0) e1
  have hl := sb_labV h2.1 hf
  rw [hk_wc h2 hf, ys_seq]
  unfold jb_Checker_checkReference_217 jb_Checker_checkReference_218
  by_cases z : (sb_lab T f).length = 0
  · rw [z, if_pos (show nI 0 - 1 < 0 by decide), hh_needI (Or.inl rfl), if_pos rfl, List.getElem?_eq_none (by omega)]
    exact HC_no
  · obtain ⟨m, hm⟩ : ∃ m, (sb_lab T f).length = m + 1 := ⟨(sb_lab T f).length - 1, by omega⟩
    obtain ⟨c, hc⟩ := yl_get (l := sb_lab T f) (k := m) (by omega)
    rw [hm, nI_pred, if_neg (nI_pos (by omega)), Nat.add_sub_cancel, hc, hb_way h2.1 hf.1 hf.2.1 hf.2.2.1 hc, ys_seq]
    obtain ⟨m1, m2⟩ := hh_fits (T := T) (u := xs_A v 9 k (nI f.1.1)) (t := sq_nn x.1) (x := c) (g := yl_f T) h2.1.1.2.1 (yvs_t (yvs_nn x2 x3)) (hl.2 m c hc).1 h2.1.2.2 (yl_fle (yV_ah h2.1.1 h2.1.2.1))
    show HC _ (xs_if (yfit (yl_f T) (sq_nn x.1) c) _) _
    by_cases zf : yfit (yl_f T) (sq_nn x.1) c
    · rw [m1 zf, ys_seq, if_neg (show ¬ (1 : Int32) = 0 by decide), hh_needI (Or.inr rfl), if_neg (show ¬ (1 : Int32) = 0 by decide), xs_ifp zf]
      exact hk_ways hfu h2 hf (by omega) fun Q' v h5 => HC_ok ⟨(), v, rfl, sBr_of h1.2.2.2 h5 q1 q2⟩
    · rw [m2 zf, ys_seq, if_pos rfl, hh_needI (Or.inl rfl), if_pos rfl, xs_ifn zf]
      exact HC_no
/-- 0x0f -/
theorem hk_ret (hfu : 200 ≤ fu) (h : sK T u Q u) : HC (xs_seq (fm_Checker_wayCount (u.2.2.1 34 0) u) fun a24 u25 => xs_try (fm_Checker_popWay fu (u.2.2.1 34 0) a24 u25) fun _ u26 => xs_seq (fm_Checker_lose u26) fun _ u27 => some (.inl (), u27)) (sq_ret T Q) (HJ fun Q' _ v => sH T Q' v ∧ ¬ Q' = [] ∧ yf_fr [19] [] [33, 35] [] u v) := by
  unfold sq_ret
  have hQ := h.2.2.1
  have hpos : 0 < Q.length := List.length_pos_iff.mpr hQ
  obtain ⟨f, hf⟩ := yl_get (l := Q) (k := Q.length - 1) (by omega)
  obtain ⟨g1, g2⟩ := sH_get h.2.1 hf
  rw [show Q.length - 1 - (Q.length - 1) = 0 by omega] at g1
  rw [g1, hf, hk_wc h g2, ys_seq]
  have hp := hk_popWay (m := (sb_lab T f).length) hfu h g2 (Nat.le_refl _)
  rw [List.take_length] at hp
  show HC _ ((sq_takes (yl_f T) (sb_lab T f).reverse Q).bind fun Q1 => some (sq_lose Q1)) _
  refine HC_try hp fun Q1 _ v _ h2 => ?_
  obtain ⟨w, f1, f2, f3⟩ := hc_lose h2.2.1 h2.2.2.1
  rw [f1, ys_seq]
  refine HC_ok ⟨(), w, rfl, f2, ?_, yf_trans (yf_mono h2.2.2.2 (by decide)) (yf_mono f3 (by decide))⟩
  intro z
  have hq1 := h2.2.2.1
  cases Q1 with
  | nil => exact hq1 rfl
  | cons x r => cases z
end
