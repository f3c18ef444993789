section
variable {α β γ δ σ τ : Type} {u v w : xk_St} {g : Nat → Nat} {T : List (Nat × List Nat × List Nat)} {n fu : Nat} {Q Q' : List sFr}
theorem sq_AmM {P P' : Nat → sFr → Nat → Prop} : ∀ {Q : List sFr}, sq_A P Q → (∀ j f b, j < Q.length → f ∈ Q → P j f b → P' j f b) → sq_A P' Q := by
  intro Q
  induction Q with
  | nil => intro _ _; exact trivial
  | cons f r ih =>
    intro h hm
    exact ⟨hm _ _ _ (by rw [List.length_cons]; omega) List.mem_cons_self h.1, ih h.2 fun j x b hj hx => hm j x b (by rw [List.length_cons]; omega) (List.mem_cons_of_mem _ hx)⟩
def sq_open (e p o : Nat) (t : Option Nat ⊕ Int64) (Q : List sFr) : Option (List sFr) := if Q.length = 100 then none else some (((e, p), o, t, false, []) :: Q)
/-- what may have been written when a block is opened at entry e -/
def sOfr (e : Nat) (u v : xk_St) : Prop := yf_fr [19, 20, 21] [] [10, 33, 34, 35] [2] u v ∧ (∀ i, ¬ i = e → v.2.2.1 10 i = u.2.2.1 10 i ∧ v.2.2.2 2 i = u.2.2.2 2 i)
theorem sOfr_s {e : Nat} (h : yf_fr [19] [] [33] [] u v) : sOfr e u v := ⟨yf_mono h (by decide), fun i _ => by rw [h.2.2.1 10 (by decide), h.2.2.2 2 (by decide)]; exact ⟨rfl, rfl⟩⟩
theorem sOfr_t {e : Nat} (h1 : sOfr e u v) (h2 : sOfr e v w) : sOfr e u w := ⟨yf_trans h1.1 h2.1, fun i hi => ⟨((h2.2 i hi).1).trans (h1.2 i hi).1, ((h2.2 i hi).2).trans (h1.2 i hi).2⟩⟩
theorem hc_66 {e d m : Nat} {s0 : Int64} {x : xk_St} (heb : e < 8192) (h21 : x.1 21 = nI d) (hd : d < 100) (h19 : x.1 19 = nI m) : jb_Checker_openPart_66 (nI e) s0 (nI e) x = some (.inl (), xs_I (xs_I (xs_A (xs_A (xs_B x 2 e s0) 34 d (nI e)) 35 d 0) 20 (nI m)) 21 (nI (d + 1))) := by
  unfold jb_Checker_openPart_66
  rw [ix8192 heb, nI_clamp (by omega)]
  simp only [xs_let]
  have a1 : (xs_B x 2 e s0).1 21 = nI d := h21
  rw [a1, if_neg (nI_in (N := 100) (by omega) (by decide)), nI_clamp (by omega)]
  have a2 : (xs_A (xs_B x 2 e s0) 34 d (nI e)).1 21 = nI d := h21
  rw [a2, if_neg (nI_in (N := 100) (by omega) (by decide)), nI_clamp (by omega), nb_z.1]
  have a3 : (xs_A (xs_A (xs_B x 2 e s0) 34 d (nI e)) 35 d 0).1 19 = nI m := h19
  rw [a3]
  have a4 : (xs_I (xs_A (xs_A (xs_B x 2 e s0) 34 d (nI e)) 35 d 0) 20 (nI m)).1 21 = nI d := h21
  rw [a4, nI_1]
theorem hc_openPart0 {e p o : Nat} {xx : Int32} {t : Option Nat ⊕ Int64} (he : yCe T u) (hb : sBt T e t u) (h7 : u.2.2.1 7 e = nI (sh_op o)) (ho : o < 10) (hne : ∀ f, f ∈ Q → ¬ f.1.1 = e) (h : sH T Q (xs_I u 20 xx)) : HC (fm_Checker_openPart (nI e) u) (sq_open e p o t Q) (HJ fun Q' _ v => sH T Q' v ∧ sOfr e u v) := by
  obtain ⟨h1, h2, h3, h4, h5, h6, h7', h8⟩ := h
  have h1 : u.1 21 = nI Q.length := h1
  have h3 : u.1 19 = nI (sq_h Q) := h3
  have h6 : ∀ (i : Nat) c, (sq_f Q)[i]? = some c → u.2.2.1 33 i = nI (yu c) := h6
  have h7' : sq_A (sH_P T u) Q := h7'
  have n1 : fm_Checker_need 1 u = some (.inl (), u) := if_neg (by decide)
  have n0 : fm_Checker_need 0 u = some (.inr 0, u) := if_pos rfl
  have heb := hb.2.1
  unfold fm_Checker_openPart jb_Checker_openPart_14 sq_open
  rw [n0, n1, ys_tryl, ys_tryr, h1]
  by_cases hf : Q.length = 100
  · rw [if_pos hf, if_pos (show (100 : Int32) ≤ nI Q.length from nI_le (a := 100) (by omega) (by omega))]
    exact HC_no
  · rw [if_neg hf, if_neg (show ¬ (100 : Int32) ≤ nI Q.length from nI_ge (b := 100) (by omega) (by decide))]
    simp only [xs_let]
    rw [ix8192 heb, ix8192 heb, nI_clamp (by omega)]
    have hb2 : sBt T e t (xs_A u 10 e (u.1 19)) := hb
    have he2 : yCe T (xs_A u 10 e (u.1 19)) := he
    have h7b : (xs_A u 10 e (u.1 19)).2.2.1 7 e = nI (sh_op o) := h7
    rw [h7b, hb_pc he2 hb2, hb_rc he2 hb2, ys_seq, ys_seq, hc_66 (x := xs_A u 10 e (u.1 19)) (d := Q.length) (m := sq_h Q) heb h1 (by omega) h3, hc_66 (x := xs_A u 10 e (u.1 19)) (d := Q.length) (m := sq_h Q) heb h1 (by omega) h3]
    have h3i : nI (sh_op o) = (3 : Int32) ↔ o = 3 := by
      refine (nI_eq (b := 3) (by unfold sh_op; split <;> (try split) <;> omega) (by decide)).trans ?_
      unfold sh_op; split <;> (try split) <;> omega
    have hpl := sb_parV (yCe_g he) he.2.1 hb.2.2.1
    have hrl := sb_resV (yCe_g he) he.2.1 hb.2.2.1 hb.2.2.2
    obtain ⟨m, hm⟩ : ∃ m, m = (sb_lab T ((e, p), o, t, false, [])).length := ⟨_, rfl⟩
    obtain ⟨x, hx⟩ : ∃ x, x = xs_A (xs_A (xs_B (xs_A u 10 e (u.1 19)) 2 e (lN m)) 34 Q.length (nI e)) 35 Q.length 0 := ⟨_, rfl⟩
    have hsel : (if nI (sh_op o) = (3 : Int32) then some (.inl (), xs_I (xs_I (xs_A (xs_A (xs_B (xs_A u 10 e (u.1 19)) 2 e (nI (sb_par T t).length).toInt64) 34 Q.length (nI e)) 35 Q.length 0) 20 (nI (sq_h Q))) 21 (nI (Q.length + 1))) else some (.inl (), xs_I (xs_I (xs_A (xs_A (xs_B (xs_A u 10 e (u.1 19)) 2 e (nI (sb_res T t).length).toInt64) 34 Q.length (nI e)) 35 Q.length 0) 20 (nI (sq_h Q))) 21 (nI (Q.length + 1)))) = (some (.inl (), xs_I (xs_I x 20 (nI (sq_h Q))) 21 (nI (Q.length + 1))) : Option ((Unit ⊕ Nat) × xk_St)) := by
      rw [hx, hm]
      unfold sb_lab
      by_cases z : o = 3
      · rw [if_pos (h3i.mpr z), if_pos z, nI_toL (by omega)]
      · rw [if_neg (fun y => z (h3i.mp y)), if_neg z, nI_toL (by omega)]
    rw [hsel]
    have x19 : x.1 19 = nI (sq_h Q) := by rw [hx]; exact h3
    have hfr : yf_fr [19, 20, 21] [] [10, 33, 34, 35] [2] u (xs_I (xs_I x 20 (nI (sq_h Q))) 21 (nI (Q.length + 1))) := by
      rw [hx]
      exact yf_I (yf_I (yf_A (yf_A (yf_B (yf_A yf_refl (by decide)) (by decide)) (by decide)) (by decide)) (by decide)) (by decide)
    have xA10 : x.2.2.1 10 = upd (u.2.2.1 10) e (nI (sq_h Q)) := by rw [hx, ← h3]; rfl
    have xB2 : x.2.2.2 2 = vp_updL (u.2.2.2 2) e (lN m) := by rw [hx]; rfl
    have xA34 : x.2.2.1 34 = upd (u.2.2.1 34) Q.length (nI e) := by rw [hx]; rfl
    have xA35 : x.2.2.1 35 = upd (u.2.2.1 35) Q.length 0 := by rw [hx]; rfl
    have xA8 : x.2.2.1 8 = u.2.2.1 8 := by rw [hx]; rfl
    have xA7 : x.2.2.1 7 = u.2.2.1 7 := by rw [hx]; rfl
    have xA33 : x.2.2.1 33 = u.2.2.1 33 := by rw [hx]; rfl
    refine HC_ok ⟨(), _, rfl, ⟨?_, ?_, ?_, ?_, rfl, fun i c hc => ?_, ⟨?_, ?_⟩, ⟨fun i c hc => by simp at hc, ⟨hb.2.2.1, hb.2.2.2, ho⟩, h8⟩⟩, hfr, fun i hi => ?_⟩
    · show nI (Q.length + 1) = _
      rfl
    · rw [List.length_cons]; omega
    · show x.1 19 = nI (0 + sq_h Q)
      rw [Nat.zero_add]; exact x19
    · show 0 + sq_h Q ≤ 100
      omega
    · show x.2.2.1 33 i = _
      rw [xA33]
      refine h6 i c ?_
      have hc : (sq_f Q ++ ([] : List Nat).reverse)[i]? = some c := hc
      rw [List.reverse_nil, List.append_nil] at hc
      exact hc
    · refine ⟨?_, ?_, ?_, ?_, ?_, ?_, heb⟩
      · show x.2.2.1 34 Q.length = _
        rw [xA34, ya_t]
      · show x.2.2.1 35 Q.length = _
        rw [xA35, ya_t]; rfl
      · show x.2.2.1 10 e = _
        rw [xA10, ya_t]
      · show x.2.2.2 2 e = _
        rw [xB2, yb_t, hm]
      · show x.2.2.1 8 e = _
        rw [xA8]; exact hb.1
      · show x.2.2.1 7 e = _
        rw [xA7]; exact h7
    · refine sq_AmM h7' fun j f b hj hf hp => ?_
      obtain ⟨p1, p2, p3, p4, p5, p6, p7⟩ := hp
      have hfe := hne f hf
      refine ⟨?_, ?_, ?_, ?_, ?_, ?_, p7⟩
      · show x.2.2.1 34 j = _
        rw [xA34, ya_j (by omega)]; exact p1
      · show x.2.2.1 35 j = _
        rw [xA35, ya_j (by omega)]; exact p2
      · show x.2.2.1 10 f.1.1 = _
        rw [xA10, ya_j hfe]; exact p3
      · show x.2.2.2 2 f.1.1 = _
        rw [xB2, yb_j hfe]; exact p4
      · show x.2.2.1 8 f.1.1 = _
        rw [xA8]; exact p5
      · show x.2.2.1 7 f.1.1 = _
        rw [xA7]; exact p6
    · show x.2.2.1 10 i = _ ∧ x.2.2.2 2 i = _
      rw [xA10, xB2, ya_j hi, yb_j hi]
      exact ⟨rfl, rfl⟩
theorem hc_openPart {e p o : Nat} {t : Option Nat ⊕ Int64} (he : yCe T u) (hb : sBt T e t u) (h7 : u.2.2.1 7 e = nI (sh_op o)) (ho : o < 10) (hne : ∀ f, f ∈ Q → ¬ f.1.1 = e) (h : sH T Q u) : HC (fm_Checker_openPart (nI e) u) (sq_open e p o t Q) (HJ fun Q' _ v => sH T Q' v ∧ sOfr e u v) := hc_openPart0 (xx := u.1 20) he hb h7 ho hne (by rw [ys_Is rfl]; exact h)
theorem HC_fin {o : Option ((Unit ⊕ Nat) × xk_St)} {s : Option σ} {I I' : σ → Unit → xk_St → Prop} (h : HC o s (HJ I)) (hm : ∀ a b v, s = some a → I a b v → I' a () v) : HC (xs_try o fun _ v => some (.inl (), v)) s (HJ I') := by
  rcases h with ⟨a, rfl, b, v, rfl, hI⟩ | ⟨rfl, v, rfl⟩
  · exact Or.inl ⟨a, rfl, (), v, rfl, hm a b v rfl hI⟩
  · exact Or.inr ⟨rfl, v, rfl⟩
/-- a block begins -/
noncomputable def sq_block (T : List (Nat × List Nat × List Nat)) (e p o : Nat) (t : Option Nat ⊕ Int64) (Q : List sFr) : Option (List sFr) := xs_if (sb_ok T t) ((sq_takes (yl_f T) (sb_par T t).reverse Q).bind fun Q1 => (sq_open e p o t Q1).bind (sq_pushes (sb_par T t)))
theorem sq_takeE {x : Nat} (h : sq_take g x Q = some Q') : Q'.map (fun f => f.1) = Q.map (fun f => f.1) := by
  unfold sq_take at h
  cases hp : sq_pop Q with
  | none => rw [hp] at h; cases h
  | some y =>
    rw [hp] at h
    have h : xs_if (yfit g y.1 x) (some y.2) = some Q' := h
    obtain ⟨-, h⟩ := xp_if h
    cases h
    rcases sq_popS (Q := Q) (c := y.1) (Q' := y.2) hp with ⟨-, -, -, f, r, s, rfl, -, h2⟩ | ⟨-, h2, -⟩
    · rw [h2]; rfl
    · rw [h2]
theorem sq_takesE : ∀ {ws : List Nat} {Q Q' : List sFr}, sq_takes g ws Q = some Q' → Q'.map (fun f => f.1) = Q.map (fun f => f.1) := by
  intro ws
  induction ws with
  | nil => intro Q Q' h; cases h; rfl
  | cons w ws ih =>
    intro Q Q' h
    have h : (sq_take g w Q).bind (sq_takes g ws) = some Q' := h
    cases hp : sq_take g w Q with
    | none => rw [hp] at h; cases h
    | some y =>
      rw [hp] at h
      exact (ih h).trans (sq_takeE hp)
theorem sq_takeT {x : Nat} {f : sFr} {r : List sFr} (h : sq_take g x (f :: r) = some Q') : ∃ s, Q' = sf_s f s :: r := by
  unfold sq_take at h
  cases hp : sq_pop (f :: r) with
  | none => rw [hp] at h; cases h
  | some y =>
    rw [hp] at h
    have h : xs_if (yfit g y.1 x) (some y.2) = some Q' := h
    obtain ⟨-, h⟩ := xp_if h
    cases h
    rcases sq_popS (Q := f :: r) (c := y.1) (Q' := y.2) hp with ⟨-, -, -, f', r', s, h1, -, h2⟩ | ⟨-, h2, -⟩
    · cases h1; exact ⟨s, h2⟩
    · exact ⟨f.2.2.2.2, h2⟩
/-- only the innermost block's part of the stack changes -/
theorem sq_takesT : ∀ {ws : List Nat} {f : sFr} {r Q' : List sFr}, sq_takes g ws (f :: r) = some Q' → ∃ s, Q' = sf_s f s :: r := by
  intro ws
  induction ws with
  | nil => intro f r Q' h; cases h; exact ⟨f.2.2.2.2, rfl⟩
  | cons w ws ih =>
    intro f r Q' h
    have h : (sq_take g w (f :: r)).bind (sq_takes g ws) = some Q' := h
    cases hp : sq_take g w (f :: r) with
    | none => rw [hp] at h; cases h
    | some y =>
      rw [hp] at h
      obtain ⟨s, rfl⟩ := sq_takeT hp
      obtain ⟨s', h'⟩ := ih h
      exact ⟨s', h'⟩
theorem sq_mem_of_map {x : Nat × Nat} (h : Q'.map (fun f => f.1) = Q.map (fun f => f.1)) {f : sFr} (hf : f ∈ Q') : ∃ f', f' ∈ Q ∧ f'.1 = f.1 := by
  have : f.1 ∈ Q'.map (fun f => f.1) := List.mem_map.mpr ⟨f, hf, rfl⟩
  rw [h] at this
  obtain ⟨f', h1, h2⟩ := List.mem_map.mp this
  exact ⟨f', h1, h2⟩
theorem hh_is {k : Nat} (he : yCe T u) (hk : k < 2 ^ 31) : (yv_fn T k → fm_Types_is (nI k) 96 u = some (1, u)) ∧ (¬ yv_fn T k → fm_Types_is (nI k) 96 u = some (0, u)) := by
  have h64 := he.1.2.1
  unfold fm_Types_is
  rw [he.1.1]
  by_cases z : T.length ≤ k
  · rw [if_pos (nI_le z hk)]
    exact ⟨fun ⟨c, h1, _⟩ => by have := yl_lt h1; omega, fun _ => rfl⟩
  · rw [if_neg (nI_ge (by omega) (by omega)), hh_ix (by omega), nI_clamp (by omega)]
    obtain ⟨c, hc⟩ := yl_get (l := T) (k := k) (by omega)
    obtain ⟨ty, tg⟩ := he.1.2.2 k c hc
    rw [ty.1]
    by_cases z2 : c.1 = 96
    · rw [if_pos (by rw [z2]; rfl)]
      exact ⟨fun _ => rfl, fun h => absurd ⟨c, hc, z2⟩ h⟩
    · rw [if_neg (yg_96 tg z2)]
      exact ⟨fun ⟨c', h1, h2⟩ => by rw [hc] at h1; cases h1; exact absurd h2 z2, fun _ => rfl⟩
/-- a block begins, by the class -/
theorem hc_block {e p o : Nat} {t : Option Nat ⊕ Int64} (hfu : 200 ≤ fu) (he : yCe T u) (h8 : u.2.2.1 8 e = nI (yb_h t)) (heb : e < 8192) (hr : sb_rd t) (h7 : u.2.2.1 7 e = nI (sh_op o)) (ho : o < 10) (hne : ∀ f, f ∈ Q → ¬ f.1.1 = e) (h : sH T Q u) (hQ : ¬ Q = []) : HC (fm_Checker_open fu (nI e) u) (sq_block T e p o t Q) (HJ fun Q' _ v => sH T Q' v ∧ sOfr e u v) := by
  unfold fm_Checker_open sq_block
  simp only [xs_let]
  rw [ix8192 heb, nI_clamp (by omega), h8]
  -- the type
  have hgo : sb_ok T t → HC (jb_Checker_open_42 fu (nI e) 1 u) ((sq_takes (yl_f T) (sb_par T t).reverse Q).bind fun Q1 => (sq_open e p o t Q1).bind (sq_pushes (sb_par T t))) (HJ fun Q' _ v => sH T Q' v ∧ sOfr e u v) := fun hok => by
    have hb : sBt T e t u := ⟨h8, heb, hok, hr⟩
    have hl := sb_parV (yCe_g he) he.2.1 hok
    have n1 : fm_Checker_need 1 u = some (.inl (), u) := if_neg (by decide)
    unfold jb_Checker_open_42
    rw [n1, ys_tryl, hb_pc he hb, ys_seq]
    simp only [xs_let]
    rw [Int32.sub_eq_add_neg]
    have := hc_takesL (u := u) (L := sb_par T t) (F := fun n b v => jb_Checker_open_56 fu n (nI e) (nI (sb_par T t).length) b v) (E := fun v => xs_try (fm_Checker_openPart (nI e) v) fun _ u8 => xs_try (fm_Checker_pushParameters fu (nI e) (nI (sb_par T t).length) u8) fun _ u9 => some (.inl (()), u9)) (fun i d hd => (hl.2 i d hd).1) he (fun n v _ => ?_) (fun n k d v hv hd => ?_) (sb_par T t).length fu Q u (Nat.le_refl _) (by omega) yf_refl h hQ
    · rw [List.take_length] at this
      refine HC_bind this fun Q1 e1 hJ => ?_
      obtain ⟨w, e2, e3, e4, e5⟩ := hJ
      rw [e2]
      have hew := yCe_fr he e4 (by decide)
      have hbw := sBt_fr hb e4 (by decide)
      refine HC_try (hc_openPart (p := p) hew hbw (by rw [e4.2.2.1 7 (by decide)]; exact h7) ho (fun f hf => ?_) e3) fun Q2 _ x f1 hI => ?_
      · obtain ⟨f', g1, g2⟩ := sq_mem_of_map (x := (0, 0)) (sq_takesE e1) hf
        rw [← g2]; exact hne f' g1
      · have hQ2 : ¬ Q2 = [] := by
          unfold sq_open at f1
          split at f1
          · cases f1
          · cases f1; simp
        have hex := yCe_fr hew hI.2.1 (by decide)
        have hbx := sBt_fr hbw hI.2.1 (by decide)
        have hpp := hc_pushPar hfu hex hbx hI.1 hQ2
        exact HC_fin hpp fun a b v _ hv => ⟨hv.1, sOfr_t (sOfr_t (sOfr_s e4) hI.2) (sOfr_s hv.2.1)⟩
    · show jb_Checker_open_56 fu (n + 1) (nI e) (nI (sb_par T t).length) (nI 0 + (-1)) v = _
      unfold jb_Checker_open_56
      simp only [xs_let]
      rw [if_pos nI_neg1]
    · have hkl := yl_lt hd
      show jb_Checker_open_56 fu (n + 1) (nI e) (nI (sb_par T t).length) (nI k) v = _
      conv => lhs; unfold jb_Checker_open_56
      simp only [xs_let]
      rw [if_neg (nI_pos (by omega)), hb_par (yCe_fr he hv (by decide)) (sBt_fr hb hv (by decide)) hd, ys_seq]
  have hbad : jb_Checker_open_42 fu (nI e) 0 u = some (.inr 0, u) := rfl
  cases t with
  | inl oc =>
    have hlo := yb_lh hr
    rw [if_pos (show nI (yb_h (.inl oc)) < (1024 : Int32) from nI_lt (b := 1024) hlo.1 (by decide))]
    cases oc with
    | none =>
      have hk : fm_Types_knows (nI (yb_h (.inl none))) u = some (1, u) := rfl
      rw [hk, ys_seq, xs_ifp (show sb_ok T (.inl none) from trivial)]
      exact hgo trivial
    | some c =>
      obtain ⟨k1, k2⟩ := hh_knows (x := c) hr.2.1 he.1
      have ey : yb_h (.inl (some c)) = yv_h c := rfl
      rw [ey]
      by_cases z : yv_in T T.length c
      · rw [k1 z, ys_seq, xs_ifp (show sb_ok T (.inl (some c)) from z)]
        exact hgo z
      · rw [k2 z, ys_seq, xs_ifn (show ¬ sb_ok T (.inl (some c)) from z), hbad]
        exact HC_no
  | inr x =>
    have hr : 0 ≤ x := hr
    have ey : yb_h (.inr x) = 1024 + yc_64 x := rfl
    have hc := yc_lt hr
    rw [ey, if_neg (show ¬ nI (1024 + yc_64 x) < (1024 : Int32) from fun z => by have := (nI_ltI (b := 1024) (by omega) (by decide)).mp z; omega), nI_1024]
    obtain ⟨k1, k2⟩ := hh_is (k := yc_64 x) he (by omega)
    have hiff : sb_ok T (.inr x) ↔ yv_fn T (yc_64 x) := by
      show (0 ≤ x ∧ yv_fn T (sb_n x)) ↔ _
      have h64 := he.1.2.1
      by_cases z : (64 : Int64) < x
      · have h1 : (64 : Int) < x.toInt := Int64.lt_iff_toInt_lt.mp z
        have e1 : yc_64 x = 64 := if_pos z
        rw [e1]
        constructor
        · intro ⟨_, c, hc, _⟩
          have := yl_lt hc
          unfold sb_n at this
          omega
        · intro ⟨c, hc, _⟩
          have := yl_lt hc
          omega
      · have e1 : yc_64 x = sb_n x := if_neg z
        rw [e1]
        exact ⟨fun h => h.2, fun h => ⟨hr, h⟩⟩
    by_cases z : yv_fn T (yc_64 x)
    · rw [k1 z, ys_seq, xs_ifp (hiff.mpr z)]
      exact hgo (hiff.mpr z)
    · rw [k2 z, ys_seq, xs_ifn (fun y => z (hiff.mp y)), hbad]
      exact HC_no
end
