section
variable {α β γ δ σ τ : Type} {u v w u0 : xk_St} {g : Nat → Nat} {T : List (Nat × List Nat × List Nat)} {n fu : Nat} {Q Q' : List sFr}
/-- the check is at Q; since u0 only the stack has changed -/
def sK (T : List (Nat × List Nat × List Nat)) (u0 : xk_St) (Q : List sFr) (v : xk_St) : Prop := yCe T v ∧ sH T Q v ∧ ¬ Q = [] ∧ yf_fr [19] [] [33] [] u0 v
theorem sK_0 (he : yCe T u) (h : sH T Q u) (hQ : ¬ Q = []) : sK T u Q u := ⟨he, h, hQ, yf_refl⟩
theorem sK_n (h : sK T u0 Q u) (h2 : sH T Q' v) (hf : yf_fr [19] [] [33] [] u v) : sK T u0 Q' v := by
  refine ⟨yCe_fr h.1 hf (by decide), h2, fun z => ?_, yf_trans h.2.2.2 hf⟩
  have := sH_ne h.2.1 hf h2
  rw [z] at this
  exact h.2.2.1 (List.length_eq_zero_iff.mp this.symm)
theorem hk_take {x : Nat} (h : sK T u0 Q u) (hx : yvw T.length x) : HC (fm_Checker_pop_I (nI (yu x)) u) (sq_take (yl_f T) x Q) (HJ fun Q' _ v => sK T u0 Q' v) :=
  HC_mono (hc_take h.1 h.2.1 h.2.2.1 hx) fun _ _ ⟨b, v, e1, e2, e3⟩ => ⟨b, v, e1, sK_n h e2 e3⟩
theorem hk_push {c : Nat} (h : sK T u0 Q u) (hc : yvs T.length c) : HC (fm_Checker_push (nI (yu c)) u) (sq_push c Q) (HJ fun Q' _ v => sK T u0 Q' v) :=
  HC_mono (hc_push h.2.1 h.2.2.1 hc) fun _ _ ⟨b, v, e1, e2, e3⟩ => ⟨b, v, e1, sK_n h e2 e3⟩
theorem hk_pop (h : sK T u0 Q u) : HC (fm_Checker_pop_ u) (sq_pop Q) (HJ fun x b v => b = nI (yu x.1) ∧ sK T u0 x.2 v ∧ yvs T.length x.1) :=
  HC_mono (hc_pop h.2.1 h.2.2.1) fun _ _ ⟨b, v, e1, e2, e3, e4, e5⟩ => ⟨b, v, e1, e2, sK_n h e3 e4, e5⟩
theorem hk_popR (h : sK T u0 Q u) : HC (fm_Checker_popReference u) (sq_popR Q) (HJ fun x b v => b = nI (if x.1 = 0 then 20 else yu x.1) ∧ sK T u0 x.2 v ∧ yvs T.length x.1 ∧ (x.1 = 0 ∨ 16 ≤ x.1)) :=
  HC_mono (hc_popR h.2.1 h.2.2.1) fun _ _ ⟨b, v, e1, e2, e3, e4, e5, e6⟩ => ⟨b, v, e1, e2, sK_n h e3 e4, e5, e6⟩
abbrev sKJ (T : List (Nat × List Nat × List Nat)) (u0 : xk_St) : List sFr → Option ((Unit ⊕ Nat) × xk_St) → Prop := HJ fun Q' _ v => sK T u0 Q' v
theorem HC_end {o : Option ((Unit ⊕ Nat) × xk_St)} {s : Option (List sFr)} (h : HC o s (sKJ T u0)) : HC (xs_try o fun _ v => some (.inl (), v)) s (sKJ T u0) := HC_fin h fun _ _ _ _ h => h
theorem HC_s {o : Option ((Unit ⊕ Nat) × xk_St)} {s s' : Option (List sFr)} {J : List sFr → Option ((Unit ⊕ Nat) × xk_St) → Prop} (e : s' = s) (h : HC o s J) : HC o s' J := e ▸ h
/-- what is taken and what comes -/
noncomputable def sq_sg (T : List (Nat × List Nat × List Nat)) (ws cs : List Nat) (Q : List sFr) : Option (List sFr) := (sq_takes (yl_f T) ws Q).bind (sq_pushes cs)
theorem yvw_1 : yvw n 1 := ⟨by decide, Or.inl (by decide)⟩
theorem yvw_2 : yvw n 2 := ⟨by decide, Or.inl (by decide)⟩
theorem yvs_1 : yvs n 1 := Or.inr (Or.inl (by decide))
theorem yvs_2 : yvs n 2 := Or.inr (Or.inl (by decide))
theorem sq_t1 {x : Nat} : sq_takes g [x] Q = sq_take g x Q := by
  show (sq_take g x Q).bind (fun Q => some Q) = _
  cases sq_take g x Q <;> rfl
theorem sq_p1 {x : Nat} : sq_pushes [x] Q = sq_push x Q := by
  show (sq_push x Q).bind (fun Q => some Q) = _
  cases sq_push x Q <;> rfl
/-- a type's parts, by the class -/
theorem yCe_m {t i d : Nat} {c : Nat × List Nat × List Nat} (he : yCe T u) (hc : T[t]? = some c) (hd : c.2.1[i]? = some d) : fm_Types_member (nI t) (nI i) u = some (nI (yv_h d), u) := by
  have h64 := he.1.2.1
  have ht := yl_lt hc
  have hv := he.2.1.2 t c hc
  have := yl_lt hd
  exact hh_member (by omega) (by have := hv.1; omega) (he.1.2.2 t c hc).1 hd
theorem yCe_o {t i d : Nat} {c : Nat × List Nat × List Nat} (he : yCe T u) (hc : T[t]? = some c) (hd : c.2.2[i]? = some d) (hi : i < 16) : fm_Types_outcome (nI t) (nI i) u = some (nI (yv_h d), u) := by
  have h64 := he.1.2.1
  have ht := yl_lt hc
  exact hh_outcome (by omega) hi (he.1.2.2 t c hc).1 hd
theorem yCe_n {t : Nat} {c : Nat × List Nat × List Nat} (he : yCe T u) (hc : T[t]? = some c) : u.2.2.1 3 t = nI c.2.1.length ∧ c.2.1.length ≤ 16 ∧ t < 64 ∧ (c.1 = 96 → u.2.2.1 4 t = nI c.2.2.length ∧ c.2.2.length ≤ 16) := by
  have h64 := he.1.2.1
  have ht := yl_lt hc
  have hv := he.2.1.2 t c hc
  have hy := (he.1.2.2 t c hc).1
  refine ⟨?_, hv.1, by omega, fun z => ⟨?_, hv.2.1 z⟩⟩
  · rw [hy.2.1, yn_cs (by have := hv.1; omega)]
  · rw [hy.2.2.1, if_pos z, yn_cs (by have := hv.2.1 z; omega)]
/-- members of a type as they may lie and be asked for -/
theorem yCe_mv {t i d : Nat} {c : Nat × List Nat × List Nat} (he : yCe T u) (hc : T[t]? = some c) (hd : c.2.1[i]? = some d) : yvw T.length d ∧ 0 < d ∧ d < 150 ∧ (d = 1 ∨ d = 2 ∨ 16 ≤ d ∨ (¬ c.1 = 96 ∧ (d = 3 ∨ d = 4))) := by
  have hv := he.2.1.2 t c hc
  have hg := (he.1.2.2 t c hc).2
  obtain ⟨g1, g2, g3⟩ := hg.2.1 i d hd
  have hin := hv.2.2.1 i d hd
  have ht := yl_lt hc
  refine ⟨⟨by omega, ?_⟩, g1, by omega, g3⟩
  rcases hin with z | z
  · exact Or.inl z
  · exact Or.inr (by omega)
theorem yCe_ov {t i d : Nat} {c : Nat × List Nat × List Nat} (he : yCe T u) (hc : T[t]? = some c) (h6 : c.1 = 96) (hd : c.2.2[i]? = some d) : yvw T.length d ∧ 0 < d ∧ d < 150 ∧ (d = 1 ∨ d = 2 ∨ 16 ≤ d) := by
  have hv := he.2.1.2 t c hc
  have hg := (he.1.2.2 t c hc).2
  obtain ⟨g1, g2, g3⟩ := hg.2.2.1 h6 i d hd
  have hin := hv.2.2.2 h6 i d hd
  have ht := yl_lt hc
  refine ⟨⟨by omega, ?_⟩, g1, by omega, g3⟩
  rcases hin with z | z
  · exact Or.inl z
  · exact Or.inr (by omega)
theorem yvs_of {d : Nat} (h : yvw n d) (h3 : d = 1 ∨ d = 2 ∨ 16 ≤ d) : yvs n d := by
  rcases h3 with rfl | rfl | z
  · exact yvs_1
  · exact yvs_2
  · exact Or.inr (Or.inr ⟨z, h⟩)
/-- a call, by the class -/
theorem hk_call {t : Nat} {c : Nat × List Nat × List Nat} (hfu : 200 ≤ fu) (h : sK T u0 Q u) (hc : T[t]? = some c) (h6 : c.1 = 96) : HC (fm_Checker_checkCall fu (nI t) u) (sq_sg T c.2.1.reverse c.2.2 Q) (sKJ T u0) := by
  obtain ⟨n1, n2, n3, n4⟩ := yCe_n h.1 hc
  obtain ⟨n5, n6⟩ := n4 h6
  unfold fm_Checker_checkCall sq_sg
  simp only [xs_let]
  rw [hh_ix (by omega), nI_clamp (by omega), n1, Int32.sub_eq_add_neg]
  have he := h.1
  have h1 := hc_takesL (u := u) (T := T) (L := c.2.1) (F := fun n b v => jb_Checker_checkCall_12 fu n (nI t) b v) (E := fun v => jb_Checker_checkCall_37 fu fu (nI t) 0 v) (fun i d hd => (yCe_mv he hc hd).1) he (fun n v _ => ?_) (fun n k d v hv hd => ?_) c.2.1.length fu Q u (Nat.le_refl _) (by omega) yf_refl h.2.1 h.2.2.1
  · rw [List.take_length] at h1
    refine HC_bind h1 fun Q1 e1 hJ => ?_
    obtain ⟨w, f1, f2, f3, f4⟩ := hJ
    have hw := yCe_fr he f3 (by decide)
    show HC (jb_Checker_checkCall_12 fu fu (nI t) (nI c.2.1.length + (-1)) u) _ _
    have f1 : jb_Checker_checkCall_12 fu fu (nI t) (nI c.2.1.length + (-1)) u = jb_Checker_checkCall_37 fu fu (nI t) 0 w := f1
    rw [f1]
    have h2 := hc_pushesL (u := w) (T := T) (L := c.2.2) (F := fun n b v => jb_Checker_checkCall_37 fu n (nI t) b v) (E := fun v => some (.inl (), v)) (fun i d hd => yvs_of (yCe_ov he hc h6 hd).1 (yCe_ov he hc h6 hd).2.2.2) (fun n v hv => ?_) (fun n k d v hv hd => ?_) c.2.2.length 0 fu Q1 w (by omega) (by omega) yf_refl f2 f4
    · rw [List.drop_zero] at h2
      refine HC_mono h2 fun Q' _ hJ => ?_
      obtain ⟨x, g1, g2, g3, g4⟩ := hJ
      exact ⟨(), x, g1, sK_n h g2 (yf_trans f3 g3)⟩
    · have n5v : v.2.2.1 4 t = nI c.2.2.length := by rw [hv.2.2.1 4 (by decide), f3.2.2.1 4 (by decide)]; exact n5
      show jb_Checker_checkCall_37 fu (n + 1) (nI t) (nI c.2.2.length) v = _
      unfold jb_Checker_checkCall_37
      simp only [xs_let]
      rw [hh_ix (by omega), nI_clamp (by omega), n5v, if_pos (Int32.le_refl _)]
    · have n5v : v.2.2.1 4 t = nI c.2.2.length := by rw [hv.2.2.1 4 (by decide), f3.2.2.1 4 (by decide)]; exact n5
      have hkl := yl_lt hd
      show jb_Checker_checkCall_37 fu (n + 1) (nI t) (nI k) v = _
      conv => lhs; unfold jb_Checker_checkCall_37
      simp only [xs_let]
      rw [hh_ix (by omega), nI_clamp (by omega), n5v, if_neg (nI_ge hkl (by omega)), yCe_o (yCe_fr hw hv (by decide)) hc hd (by omega), ys_seq, yu_h (yCe_ov he hc h6 hd).2.2.1]
      simp only [nI_1]
  · show jb_Checker_checkCall_12 fu (n + 1) (nI t) (nI 0 + (-1)) v = _
    unfold jb_Checker_checkCall_12
    simp only [xs_let]
    rw [if_pos nI_neg1]
  · have hkl := yl_lt hd
    show jb_Checker_checkCall_12 fu (n + 1) (nI t) (nI k) v = _
    conv => lhs; unfold jb_Checker_checkCall_12
    simp only [xs_let]
    rw [if_neg (nI_pos (by omega)), yCe_m (yCe_fr he hv (by decide)) hc hd, ys_seq, yu_h (yCe_mv he hc hd).2.2.1]
/-- a variable: 0 it comes, 1 it is set, 2 it is set and stays -/
noncomputable def sq_var (T : List (Nat × List Nat × List Nat)) (way t : Nat) (Q : List sFr) : Option (List sFr) := sq_sg T (if way = 0 then [] else [t]) (if way = 1 then [] else [t]) Q
theorem hk_var {way t : Nat} (h : sK T u0 Q u) (hw : yvw T.length t) (hs : yvs T.length t) (hy : way < 3) : HC (fm_Checker_checkVariable (nI way) (nI (yu t)) u) (sq_var T way t Q) (sKJ T u0) := by
  unfold fm_Checker_checkVariable sq_var sq_sg
  have e0 : nI way ≤ 0 ↔ way = 0 := by
    rw [show (0 : Int32) = nI 0 from rfl, nI_leI (by omega) (by omega)]; omega
  have h9 : ∀ {v : xk_St} {Q : List sFr}, sK T u0 Q v → HC (jb_Checker_checkVariable_9 (nI way) (nI (yu t)) v) (sq_pushes (if way = 1 then [] else [t]) Q) (sKJ T u0) := fun {v Q} h => by
    unfold jb_Checker_checkVariable_9
    have e1 : nI way = 1 ↔ way = 1 := by
      rw [show (1 : Int32) = nI 1 from rfl, nI_eq (by omega) (by omega)]
    by_cases z : way = 1
    · rw [if_pos (e1.mpr z), if_pos z]
      exact HC_ok ⟨(), v, rfl, h⟩
    · rw [if_neg (fun y => z (e1.mp y)), if_neg z, sq_p1]
      exact HC_end (hk_push h hs)
  by_cases z : way = 0
  · rw [if_pos (e0.mpr z), if_pos z]
    exact h9 h
  · rw [if_neg (fun y => z (e0.mp y)), if_neg z, sq_t1]
    exact HC_try (hk_take h hw) fun Q1 _ v _ h1 => h9 h1
/-- numbers -/
theorem hk_compute {k a b : Nat} (hfu : 200 ≤ fu) (h : sK T u0 Q u) (hk : k = 1 ∨ k = 2) (ha : yvw T.length a) (hb : yvs T.length b) : HC (fm_Checker_compute fu (nI k) (nI (yu a)) (nI (yu b)) u) (sq_sg T (List.replicate k a) [b] Q) (sKJ T u0) := by
  have hE : ∀ {m : Nat} {v : xk_St} {Q : List sFr}, sK T u0 Q v → HC (jb_Checker_compute_3 fu (m + 1) (nI k) (nI (yu a)) (nI (yu b)) (nI k) v) (sq_pushes [b] Q) (sKJ T u0) := fun {m v Q} h => by
    unfold jb_Checker_compute_3
    simp only [xs_let]
    rw [if_pos (Int32.le_refl _), sq_p1]
    exact HC_end (hk_push h hb)
  have hS : ∀ {m i : Nat} {v : xk_St}, i < k → jb_Checker_compute_3 fu (m + 1) (nI k) (nI (yu a)) (nI (yu b)) (nI i) v = xs_try (fm_Checker_pop_I (nI (yu a)) v) fun _ w => jb_Checker_compute_3 fu m (nI k) (nI (yu a)) (nI (yu b)) (nI (i + 1)) w := fun {m i v} hi => by
    conv => lhs; unfold jb_Checker_compute_3
    simp only [xs_let]
    rw [if_neg (nI_ge hi (by omega))]
    simp only [nI_1]
  unfold fm_Checker_compute sq_sg
  obtain ⟨m, rfl⟩ : ∃ m, fu = m + 3 := ⟨fu - 3, by omega⟩
  show HC (jb_Checker_compute_3 (m + 3) (m + 2 + 1) (nI k) (nI (yu a)) (nI (yu b)) (nI 0) u) _ _
  rcases hk with rfl | rfl
  · rw [hS (by decide), show List.replicate 1 a = [a] from rfl, sq_t1]
    exact HC_try (hk_take h ha) fun Q1 _ v _ h1 => hE h1
  · rw [hS (by decide)]
    show HC _ (((sq_take (yl_f T) a Q).bind (sq_takes (yl_f T) [a])).bind _) _
    rw [Option.bind_assoc]
    refine HC_try (hk_take h ha) fun Q1 _ v _ h1 => ?_
    rw [hS (m := m + 1) (by decide), sq_t1]
    exact HC_try (hk_take h1 ha) fun Q2 _ v _ h2 => hE h2
end
