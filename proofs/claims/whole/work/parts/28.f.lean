section
variable {α β γ δ σ τ : Type} {u v w : xk_St} {g : Nat → Nat} {T : List (Nat × List Nat × List Nat)} {n fu : Nat} {Q Q' : List sFr}
/-- an 0x05 -/
noncomputable def sq_else (T : List (Nat × List Nat × List Nat)) (Q : List sFr) : Option (List sFr) := (sq_over T Q).bind fun Q' => match Q' with
  | [] => none
  | f :: r => sq_pushes (sb_par T f.2.2.1) ((f.1, 5, f.2.2.1, false, []) :: r)
/-- what may have been written on the stack and of the marks -/
def sLfr (u v : xk_St) : Prop := yf_fr [19, 20, 21] [] [33, 35] [] u v
theorem sq_tops {f : sFr} {r : List sFr} (h : sq_h (f :: r) = sq_h (f :: r).tail) : f.2.2.2.2 = [] := by
  have h1 : f.2.2.2.2.length + sq_h r = sq_h r := h
  exact List.length_eq_zero_iff.mp (by omega)
theorem hc_else {f : sFr} {r : List sFr} (hfu : 200 ≤ fu) (he : yCe T u) (h : sH T (f :: r) u) (ho : f.2.1 = 4) : HC (fm_Checker_turn fu u) (sq_else T (f :: r)) (HJ fun Q' _ v => sH T Q' v ∧ sLfr u v) := by
  obtain ⟨k1, hfi⟩ := sH_get (d := 0) h rfl
  have hlen : (f :: r).length = r.length + 1 := List.length_cons
  have hl100 := h.2.1
  unfold fm_Checker_turn sq_else
  have ix : ∀ {β : Type} (x : xk_St) (o : Option (β × xk_St)), x.1 21 = nI (r.length + 1) → (if (x.1 21 - 1) < 0 ∨ 100 ≤ (x.1 21 - 1).toNatClampNeg then none else o) = o := fun x o hx => by rw [hx, nI_pred]; exact if_neg (nI_in (N := 100) (by omega) (by decide))
  have u21 : u.1 21 = nI (r.length + 1) := by rw [← hlen]; exact h.1
  rw [ix u _ u21, u21, nI_pred, nI_clamp (by omega)]
  have k1' : u.2.2.1 34 r.length = nI f.1.1 := by
    have := k1
    rw [hlen, Nat.add_sub_cancel, Nat.sub_zero] at this
    exact this
  rw [k1']
  simp only [xs_let]
  refine HC_try (hc_over hfu he h) fun Q' b v e1 hI => ?_
  obtain ⟨⟨j1, j2, j3⟩, j4⟩ := hI
  have v21 : v.1 21 = nI (r.length + 1) := (j2.1 21 (by decide)).trans u21
  rw [ix v _ v21, v21, nI_pred, nI_clamp (by omega), nb_z.1]
  -- the block itself
  have hmap : Q'.map (fun f => f.1) = (f :: r).map (fun f => f.1) ∧ ∃ s, Q' = sf_s f s :: r := by
    unfold sq_over at e1
    have e1 : ((sq_takes (yl_f T) (sb_res T f.2.2.1).reverse (f :: r)).bind fun Q' => xs_if (sq_h Q' = sq_h Q'.tail) (some Q')) = some Q' := e1
    cases hp : sq_takes (yl_f T) (sb_res T f.2.2.1).reverse (f :: r) with
    | none => rw [hp] at e1; cases e1
    | some y =>
      rw [hp] at e1
      have e1 : xs_if (sq_h y = sq_h y.tail) (some y) = some Q' := e1
      obtain ⟨-, e1⟩ := xp_if e1
      cases e1
      exact ⟨sq_takesE hp, sq_takesT hp⟩
  obtain ⟨-, s, rfl⟩ := hmap
  have hs := sq_tops j4
  have hs : s = [] := hs
  subst hs
  show HC _ (sq_pushes (sb_par T f.2.2.1) ((f.1, 5, f.2.2.1, false, []) :: r)) _
  have hfr : yf_fr [19, 20, 21] [] [33, 35] [] u (xs_A v 35 r.length 0) := yf_A (yf_mono j2 (by decide)) (by decide)
  have hev : yCe T (xs_A v 35 r.length 0) := yCe_fr he hfr (by decide)
  have hbv : sBt T f.1.1 f.2.2.1 (xs_A v 35 r.length 0) := sBt_fr hfi.1 hfr (by decide)
  have hH : sH T ((f.1, 5, f.2.2.1, false, []) :: r) (xs_A v 35 r.length 0) := by
    obtain ⟨h1, h2, h3, h4, h5, h6, h7, h8⟩ := j1
    refine ⟨h1, h2, h3, h4, h5, h6, ⟨?_, ?_⟩, ⟨fun i c hc => by simp at hc, ⟨h8.2.1.1, h8.2.1.2.1, (show (5 : Nat) < 10 by decide)⟩, h8.2.2⟩⟩
    · obtain ⟨p1, p2, p3, p4, p5, p6, p7⟩ := h7.1
      refine ⟨p1, ?_, p3, ?_, p5, ?_, p7⟩
      · show upd (v.2.2.1 35) r.length 0 r.length = _
        rw [ya_t]; rfl
      · have e0 : sb_lab T (f.1, 5, f.2.2.1, false, ([] : List Nat)) = sb_lab T (sf_s f []) := by
          unfold sb_lab
          rw [if_neg (show ¬ (5 : Nat) = 3 by decide), if_neg (show ¬ (sf_s f []).2.1 = 3 from by show ¬ f.2.1 = 3; omega)]
          rfl
        rw [e0]; exact p4
      · show v.2.2.1 7 f.1.1 = _
        have p6 : v.2.2.1 7 f.1.1 = nI (sh_op f.2.1) := p6
        rw [p6, ho]; rfl
    · refine sq_Am h7.2 fun j f b hj hp => ?_
      obtain ⟨p1, p2, p3, p4, p5, p6, p7⟩ := hp
      refine ⟨p1, ?_, p3, p4, p5, p6, p7⟩
      show upd (v.2.2.1 35) r.length 0 j = _
      rw [ya_j (by omega)]; exact p2
  rw [hb_pc hev hbv, ys_seq]
  exact HC_fin (hc_pushPar hfu hev hbv hH (by simp)) fun a b x _ hx => ⟨hx.1, yf_trans hfr (yf_mono hx.2.1 (by decide))⟩
/-- an 0x04 without 0x05: its results must be its parameters -/
def sb_same (T : List (Nat × List Nat × List Nat)) (t : Option Nat ⊕ Int64) : Prop := (sb_par T t).length = (sb_res T t).length ∧ ∀ (i : Nat) a b, (sb_par T t)[i]? = some a → (sb_res T t)[i]? = some b → yfit (yl_f T) a b ∧ yfit (yl_f T) b a
/-- an 0x0b -/
noncomputable def sq_end (T : List (Nat × List Nat × List Nat)) (Q : List sFr) : Option (List sFr) := (sq_over T Q).bind fun Q' => match Q' with
  | [] => none
  | f :: r => xs_if (f.2.1 = 4 → sb_same T f.2.2.1) (match r with
    | [] => some []
    | _ :: _ => sq_pushes (sb_res T f.2.2.1) r)
theorem hc_same {e : Nat} {t : Option Nat ⊕ Int64} (hfu : 200 ≤ fu) (he : yCe T u) (hb : sBt T e t u) : (sb_same T t → fm_Checker_needUnchanged fu (nI e) u = some (.inl (), u)) ∧ (¬ sb_same T t → fm_Checker_needUnchanged fu (nI e) u = some (.inr 0, u)) := by
  have n1 : fm_Checker_need 1 u = some (.inl (), u) := if_neg (by decide)
  have n0 : fm_Checker_need 0 u = some (.inr 0, u) := if_pos rfl
  have hp := sb_parV (yCe_g he) he.2.1 hb.2.2.1
  have hr := sb_resV (yCe_g he) he.2.1 hb.2.2.1 hb.2.2.2
  unfold fm_Checker_needUnchanged jb_Checker_needUnchanged_20
  rw [hb_rc he hb, ys_seq, hb_pc he hb, ys_seq, n0, n1, ys_tryl, ys_tryr]
  have hc : nI (sb_par T t).length = nI (sb_res T t).length ↔ (sb_par T t).length = (sb_res T t).length := nI_eq (by omega) (by omega)
  by_cases z : (sb_par T t).length = (sb_res T t).length
  · rw [if_pos (hc.mpr z)]
    have loop := yb_all (N := (sb_res T t).length) (fun i => ∀ a b, (sb_par T t)[i]? = some a → (sb_res T t)[i]? = some b → yfit (yl_f T) a b ∧ yfit (yl_f T) b a) (fun n i => jb_Checker_needUnchanged_25 fu n (nI e) (nI (sb_res T t).length) (nI i) u) (some (.inl (), u)) (some (.inr 0, u)) (fun n => ?_) (fun n i hi => ?_) (sb_res T t).length 0 fu (by omega) (by omega)
    · exact ⟨fun h => loop.1 fun i _ _ => h.2 i, fun h => loop.2 (Classical.byContradiction fun hno => h ⟨z, fun i a b ha hb => Classical.byContradiction fun hn => hno ⟨i, Nat.zero_le _, yl_lt hb, fun y => hn (y a b ha hb)⟩⟩)⟩
    · show jb_Checker_needUnchanged_25 fu (n + 1) (nI e) (nI (sb_res T t).length) (nI (sb_res T t).length) u = _
      unfold jb_Checker_needUnchanged_25
      simp only [xs_let]
      rw [if_pos (Int32.le_refl _)]
    · obtain ⟨a, ha⟩ := yl_get (l := sb_par T t) (k := i) (by omega)
      obtain ⟨b, hb'⟩ := yl_get (l := sb_res T t) (k := i) hi
      have va := hp.2 i a ha
      have vb := hr.2 i b hb'
      have hg := yl_fle (yV_ah he.1 he.2.1)
      obtain ⟨f1, f2⟩ := hh_fits (u := u) (g := yl_f T) (t := a) (x := b) he.1.2.1 (Or.inr va.1) vb.1 he.2.2 hg
      obtain ⟨g1, g2⟩ := hh_fits (u := u) (g := yl_f T) (t := b) (x := a) he.1.2.1 (Or.inr vb.1) va.1 he.2.2 hg
      have hstp : jb_Checker_needUnchanged_25 fu (n + 1) (nI e) (nI (sb_res T t).length) (nI i) u = xs_seq (fm_Types_same (nI (yu a)) (nI (yu b)) u) fun a10 u11 => xs_try (fm_Checker_need a10 u11) fun _ u12 => jb_Checker_needUnchanged_25 fu n (nI e) (nI (sb_res T t).length) (nI (i + 1)) u12 := by
        conv => lhs; unfold jb_Checker_needUnchanged_25
        simp only [xs_let]
        rw [if_neg (nI_ge hi (by omega)), hb_par he hb ha, ys_seq, hb_res he hb hb', ys_seq, nI_1]
      have hP : (∀ x y, (sb_par T t)[i]? = some x → (sb_res T t)[i]? = some y → yfit (yl_f T) x y ∧ yfit (yl_f T) y x) ↔ yfit (yl_f T) a b ∧ yfit (yl_f T) b a := ⟨fun h => h a b ha hb', fun h x y hx hy => by rw [ha] at hx; rw [hb'] at hy; cases hx; cases hy; exact h⟩
      show ((∀ x y, (sb_par T t)[i]? = some x → (sb_res T t)[i]? = some y → yfit (yl_f T) x y ∧ yfit (yl_f T) y x) → jb_Checker_needUnchanged_25 fu (n + 1) (nI e) (nI (sb_res T t).length) (nI i) u = _) ∧ (¬ (∀ x y, (sb_par T t)[i]? = some x → (sb_res T t)[i]? = some y → yfit (yl_f T) x y ∧ yfit (yl_f T) y x) → jb_Checker_needUnchanged_25 fu (n + 1) (nI e) (nI (sb_res T t).length) (nI i) u = _)
      rw [hP, hstp]
      unfold fm_Types_same
      by_cases z1 : yfit (yl_f T) a b
      · rw [f1 z1, ys_seq, if_neg (show ¬ (1 : Int32) = 0 by decide)]
        by_cases z2 : yfit (yl_f T) b a
        · rw [g1 z2, ys_seq, if_neg (show ¬ (1 : Int32) = 0 by decide), ys_seq, n1, ys_tryl]
          exact ⟨fun _ => rfl, fun h => absurd ⟨z1, z2⟩ h⟩
        · rw [g2 z2, ys_seq, if_pos rfl, ys_seq, n0, ys_tryr]
          exact ⟨fun h => absurd h.2 z2, fun _ => rfl⟩
      · rw [f2 z1, ys_seq, if_pos rfl, ys_seq, n0, ys_tryr]
        exact ⟨fun h => absurd h.1 z1, fun _ => rfl⟩
  · rw [if_neg (fun y => z (hc.mp y))]
    exact ⟨fun h => absurd h.1 z, fun _ => rfl⟩
/-- the end of a block, by the class: m is where the block's mate is -/
theorem hc_end {f : sFr} {r : List sFr} {m : Nat} (hfu : 200 ≤ fu) (he : yCe T u) (h : sH T (f :: r) u) (hm : f.2.1 = 4 ∨ f.2.1 = 5 → u.2.2.1 9 f.1.1 = nI m ∧ m < 8192 ∧ u.2.2.1 7 m = nI (if f.2.1 = 4 then 11 else 5)) : HC (fm_Checker_close fu u) (sq_end T (f :: r)) (HJ fun Q' _ v => sH T Q' v ∧ sLfr u v) := by
  obtain ⟨k1, hfi⟩ := sH_get (d := 0) h rfl
  have hlen : (f :: r).length = r.length + 1 := List.length_cons
  have hl100 := h.2.1
  have heb := hfi.1.2.1
  unfold fm_Checker_close sq_end
  have u21 : u.1 21 = nI (r.length + 1) := by rw [← hlen]; exact h.1
  rw [u21, nI_pred, if_neg (nI_in (N := 100) (by omega) (by decide)), nI_clamp (by omega)]
  have k1' : u.2.2.1 34 r.length = nI f.1.1 := by
    have := k1
    rw [hlen, Nat.add_sub_cancel, Nat.sub_zero] at this
    exact this
  rw [k1']
  simp only [xs_let]
  refine HC_try (hc_over hfu he h) fun Q' b v e1 hI => ?_
  obtain ⟨⟨j1, j2, j3⟩, j4⟩ := hI
  obtain ⟨s, rfl⟩ : ∃ s, Q' = sf_s f s :: r := by
    unfold sq_over at e1
    have e1 : ((sq_takes (yl_f T) (sb_res T f.2.2.1).reverse (f :: r)).bind fun Q' => xs_if (sq_h Q' = sq_h Q'.tail) (some Q')) = some Q' := e1
    cases hp : sq_takes (yl_f T) (sb_res T f.2.2.1).reverse (f :: r) with
    | none => rw [hp] at e1; cases e1
    | some y =>
      rw [hp] at e1
      have e1 : xs_if (sq_h y = sq_h y.tail) (some y) = some Q' := e1
      obtain ⟨-, e1⟩ := xp_if e1
      cases e1
      exact sq_takesT hp
  have hs : s = [] := sq_tops j4
  subst hs
  have hev : yCe T v := yCe_fr he j2 (by decide)
  have hfv : sFi T f v := sFi_fr hfi j2 (by decide)
  rw [ix8192 heb, ix8192 heb, nI_clamp (by omega), hfv.2.1]
  have ho := hfv.2.2.1
  have h4i : nI (sh_op f.2.1) = (4 : Int32) ↔ f.2.1 = 4 ∨ f.2.1 = 5 := by
    refine (nI_eq (b := 4) (by unfold sh_op; split <;> (try split) <;> omega) (by decide)).trans ?_
    unfold sh_op; split <;> (try split) <;> omega
  -- the rest
  have hrest : HC (jb_Checker_close_57 fu (nI f.1.1) v) (match r with
    | [] => some []
    | _ :: _ => sq_pushes (sb_res T f.2.2.1) r) (HJ fun Q' _ v => sH T Q' v ∧ sLfr u v) := by
    obtain ⟨h1, h2, h3, h4, h5, h6, h7, h8⟩ := j1
    have v21 : v.1 21 = nI (r.length + 1) := (j2.1 21 (by decide)).trans u21
    have hsum : sq_h (sf_s f [] :: r) = sq_h r := Nat.zero_add _
    unfold jb_Checker_close_57
    simp only [xs_let]
    rw [v21, nI_pred]
    have x21 : (xs_I v 21 (nI r.length)).1 21 = nI r.length := rfl
    rw [x21]
    cases r with
    | nil =>
      rw [if_pos (show nI ([] : List sFr).length ≤ 0 by decide)]
      refine HC_ok ⟨(), _, rfl, ⟨rfl, by decide, ?_, by decide, ?_, fun i c hc => by simp [sq_f] at hc, trivial, trivial⟩, yf_I (yf_mono j2 (by decide)) (by decide)⟩
      · show v.1 19 = nI 0
        rw [h3, hsum]; rfl
      · exact h5
    | cons f2 r2 =>
      have hl2 : (f2 :: r2).length = r2.length + 1 := List.length_cons
      rw [if_neg (show ¬ nI (f2 :: r2).length ≤ 0 from nI_ge (b := (f2 :: r2).length) (a := 0) (by omega) (by omega)), hl2, nI_pred, if_neg (nI_in (N := 100) (by omega) (by decide)), nI_clamp (by omega)]
      obtain ⟨p1, p2, p3, p4, p5, p6, p7⟩ := h7.2.1
      have e34 : (xs_I v 21 (nI (r2.length + 1))).2.2.1 34 r2.length = nI f2.1.1 := p1
      rw [e34, ix8192 p7, nI_clamp (by omega)]
      have e10 : (xs_I v 21 (nI (r2.length + 1))).2.2.1 10 f2.1.1 = nI (sq_h r2) := p3
      rw [e10]
      have hfr : yf_fr [19, 20, 21] [] [33, 35] [] u (xs_I (xs_I v 21 (nI (r2.length + 1))) 20 (nI (sq_h r2))) := yf_I (yf_I (yf_mono j2 (by decide)) (by decide)) (by decide)
      have hH : sH T (f2 :: r2) (xs_I (xs_I v 21 (nI (r2.length + 1))) 20 (nI (sq_h r2))) := by
        refine ⟨rfl, by rw [hl2]; rw [List.length_cons, hl2] at h2; omega, ?_, by rw [← hsum]; exact h4, rfl, fun i c hc => ?_, h7.2, h8.2.2⟩
        · show v.1 19 = _
          rw [h3, hsum]
        · refine h6 i c ?_
          show (sq_f (f2 :: r2) ++ ([] : List Nat).reverse)[i]? = some c
          rw [List.reverse_nil, List.append_nil]; exact hc
      have hex := yCe_fr he hfr (by decide)
      have hbx := sBt_fr hfi.1 hfr (by decide)
      have hl := sb_resV (yCe_g he) he.2.1 hfi.1.2.2.1 hfi.1.2.2.2
      have := hc_pushesL (u := xs_I (xs_I v 21 (nI (r2.length + 1))) 20 (nI (sq_h r2))) (L := sb_res T f.2.2.1) (F := fun n b v => jb_Checker_close_99 fu n (nI f.1.1) b v) (E := fun v => some (.inl (), v)) (fun i d hd => (hl.2 i d hd).2.1) (fun n x hx => ?_) (fun n k d x hx hd => ?_) (sb_res T f.2.2.1).length 0 fu (f2 :: r2) _ (by omega) (by omega) yf_refl hH (by simp)
      · rw [List.drop_zero] at this
        refine HC_mono this fun Q' _ hJ => ?_
        obtain ⟨x, e1, e2, e3, e4⟩ := hJ
        exact ⟨(), x, e1, e2, yf_trans hfr (yf_mono e3 (by decide))⟩
      · show jb_Checker_close_99 fu (n + 1) (nI f.1.1) (nI (sb_res T f.2.2.1).length) x = _
        unfold jb_Checker_close_99
        simp only [xs_let]
        rw [hb_rc (yCe_fr hex hx (by decide)) (sBt_fr hbx hx (by decide)), ys_seq, if_pos (Int32.le_refl _)]
      · have hkl := yl_lt hd
        show jb_Checker_close_99 fu (n + 1) (nI f.1.1) (nI k) x = _
        conv => lhs; unfold jb_Checker_close_99
        simp only [xs_let]
        rw [hb_rc (yCe_fr hex hx (by decide)) (sBt_fr hbx hx (by decide)), ys_seq, if_neg (nI_ge hkl (by omega)), hb_res (yCe_fr hex hx (by decide)) (sBt_fr hbx hx (by decide)) hd, ys_seq, nI_1]
  show HC _ (xs_if (f.2.1 = 4 → sb_same T f.2.2.1) (match r with
    | [] => some []
    | _ :: _ => sq_pushes (sb_res T f.2.2.1) r)) _
  by_cases z : f.2.1 = 4 ∨ f.2.1 = 5
  · obtain ⟨m1, m2, m3⟩ := hm z
    have vm1 : v.2.2.1 9 f.1.1 = nI m := by rw [j2.2.2.1 9 (by decide)]; exact m1
    have vm3 : v.2.2.1 7 m = nI (if f.2.1 = 4 then 11 else 5) := by rw [j2.2.2.1 7 (by decide)]; exact m3
    rw [if_pos (h4i.mpr z), vm1, ix8192 m2, nI_clamp (show m < 2 ^ 31 by omega), vm3]
    by_cases z4 : f.2.1 = 4
    · rw [if_pos z4, if_pos (show nI 11 = (11 : Int32) from rfl)]
      obtain ⟨s1, s2⟩ := hc_same (fu := fu) hfu hev hfv.1
      by_cases zs : sb_same T f.2.2.1
      · rw [s1 zs, ys_tryl, xs_ifp (fun _ => zs)]
        exact hrest
      · rw [s2 zs, ys_tryr, xs_ifn (fun y => zs (y z4))]
        exact HC_no
    · rw [if_neg z4, if_neg (show ¬ nI 5 = (11 : Int32) by decide), xs_ifp (fun y => absurd y z4)]
      exact hrest
  · rw [if_neg (fun y => z (h4i.mp y)), xs_ifp (fun y => absurd (Or.inl y) z)]
    exact hrest
end
