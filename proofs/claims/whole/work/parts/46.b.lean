section
variable {α β γ δ σ τ : Type} {B : Nat → Int32} {u v w u' v' u0 v0 u1 v1 uh um v8 u9 v9 : xk_St} {T : List (Nat × List Nat × List Nat)} {F : List Nat} {G : List (Nat × Nat × Nat × Int64)} {n fu p q k j d b g m i t tc mc D f tn : Nat} {H H' : rH} {z : Nat → Nat} {LL : Nat → List Nat} {AA : Nat → sBo} {tt : Nat → Nat} {c : Nat × List Nat × List Nat} {R : List Nat} {l4 l5 : List (Nat × Option Nat)} {l7 : List ((Nat × Nat) × Nat × Nat)} {n8 : Option Nat} {l9 : List (Int64 × List Nat)} {l10 : List sBo} {l11 : List (Int64 × Nat × Nat)} {S : Nat → Option (Nat × Nat)}
/-- exports as both hold them -/
def rEx (F : List Nat) (G : List (Nat × Nat × Nat × Int64)) (l7 : List ((Nat × Nat) × Nat × Nat)) (uh um : xk_St) : Prop := (uh.1 14 = nI l7.length ∧ yi_rows yi_exp l7 uh) ∧ (um.1 19 = nI l7.length ∧ yn_m l7 l7.length um ∧ ∀ (k : Nat) a, l7[k]? = some a → um.2.2.1 18 k = nI a.2.1 ∧ um.2.2.1 19 k = nI a.2.2) ∧ l7.length ≤ 64 ∧ ∀ (k : Nat) a, l7[k]? = some a → a.2.1 ≤ 3 ∧ a.2.2 < 64 ∧ (a.2.1 = 0 → a.2.2 < F.length) ∧ (a.2.1 = 3 → a.2.2 < G.length)
/-- an instance at rest, by both -/
def rIn (uh um : xk_St) : Prop := ∃ D B n T F tc mc G l7 z LL AA tt H, rSt D B n T F tc mc G z LL AA tt uh um ∧ RD T F tc H G uh um ∧ uh.2.2.1 1 = B ∧ rEx F G l7 uh um ∧ ∀ f, F[f]? = some (tt f) ∨ F.length ≤ f
/-- class and reference at rest -/
def rRel (uh um : xk_St) : Prop := rB uh um ∧ ((uh.1 4 = 0 ∧ um.1 25 = 0) ∨ (uh.1 4 = 1 ∧ um.1 25 = 1 ∧ rIn uh um))
theorem rEx_f {I J A C I' J' A' C' : List Nat} (h : rEx F G l7 u v) (hu : yf_fr I J A C u u') (hd : (yf_no [14] I && yf_no [24, 25, 26] A && yf_no [7] C) = true) (hv : yf_fr I' J' A' C' v v') (hd' : (yf_no [19] I' && yf_no [16, 17, 18, 19] A') = true) : rEx F G l7 u' v' := by
  have e0 := Bool.and_eq_true_iff.mp hd
  have e1 := Bool.and_eq_true_iff.mp e0.1
  have e2 := Bool.and_eq_true_iff.mp hd'
  obtain ⟨⟨a1, a2⟩, ⟨b1, b2, b3⟩, r⟩ := h
  refine ⟨⟨by rw [hu.1 14 (yf_nok e1.1 (by simp))]; exact a1, yi_keep a2 fun k a hk => ?_⟩, ⟨by rw [hv.1 19 (yf_nok e2.1 (by simp))]; exact b1, fun k a h1 h2 => ?_, fun k a ha => ?_⟩, r⟩
  · unfold yi_exp at hk ⊢
    rw [hu.2.2.1 25 (yf_nok e1.2 (by simp)), hu.2.2.1 26 (yf_nok e1.2 (by simp)), hu.2.2.1 24 (yf_nok e1.2 (by simp)), hu.2.2.2 7 (yf_nok e0.2 (by simp))]; exact hk
  · rw [hv.2.2.1 16 (yf_nok e2.2 (by simp)), hv.2.2.1 17 (yf_nok e2.2 (by simp))]; exact b2 k a h1 h2
  · rw [hv.2.2.1 18 (yf_nok e2.2 (by simp)), hv.2.2.1 19 (yf_nok e2.2 (by simp))]; exact b3 k a ha
theorem ex_kind {a : (Nat × Nat) × Nat × Nat} (hX : yX B (yp_exp B) (S 7) l7) (ha : l7[k]? = some a) : a.2.1 ≤ 3 := by
  have rep : ∀ {lim : Nat} (n p : Nat) (l : List ((Nat × Nat) × Nat × Nat)) (e : Nat), yp_rep (yp_exp B lim) n p = .inl (l, e) → ∀ (k : Nat), l[k]? = some a → ∃ p q, yp_exp B lim p = .inl (a, q) := by
    intro lim n
    induction n with
    | zero => intro p l e h k hk; cases h; cases hk
    | succ n ih =>
      intro p l e h k hk
      obtain ⟨x, q1, h1, h⟩ := yp_thenI h
      obtain ⟨l', q2, h2, h⟩ := yp_thenI h
      cases h
      cases k with
      | zero => cases hk; exact ⟨p, q1, h1⟩
      | succ k => exact ih _ _ _ h2 k hk
  cases hs : S 7 with
  | none => rw [hs] at hX; have hX : l7 = [] := hX; subst hX; cases ha
  | some x =>
    rw [hs] at hX
    obtain ⟨-, -, h⟩ := hX
    obtain ⟨n, q1, -, h⟩ := yp_thenI h
    obtain ⟨p, q, hp⟩ := rep n q1 l7 _ h k ha
    obtain ⟨nm, q2, -, hp⟩ := yp_thenI hp
    obtain ⟨b, q3, hb, hp⟩ := yp_thenI hp
    by_cases c3 : b ≤ 3
    · rw [if_pos c3] at hp
      obtain ⟨m, q4, -, hp⟩ := yp_thenI hp
      cases hp
      show b.toNatClampNeg ≤ 3
      have h1 := Int32.le_iff_toInt_le.mp c3
      have h3 : (3 : Int32).toInt = 3 := by decide
      rw [h3] at h1
      show b.toInt.toNat ≤ 3
      omega
    · rw [if_neg c3] at hp; cases hp
theorem ex_bound {nf nt nm ng kd : Nat} (hk : kd ≤ 3) : ye_bound nf nt nm ng kd = (if kd = 0 then nf else if kd = 1 then nt else if kd = 2 then nm else ng) := by
  have : kd = 0 ∨ kd = 1 ∨ kd = 2 ∨ kd = 3 := by omega
  rcases this with rfl | rfl | rfl | rfl <;> rfl
/-- a load, by both -/
theorem ld_all (hfu : 2 ^ 46 < fu) (hr : rB uh um) : ∃ r uh' um', fm_House_load fu uh = some (r, uh') ∧ fm_Model_load fu um = some (r, um') ∧ rRel uh' um' := by
  rcases ld_mod (fu := fu) (by omega) hr with ⟨r, uh', um', a1, a2, a3, a4, a5⟩ | ⟨n, T, F, l4, l5, G, l7, n8, l9, l10, l11, S, z, LL, AA, tt, w, v8, n', hn, e1, e2, hSt, hMod, hV, hyB, hEM, hC, hK, hFt, h7⟩
  · exact ⟨r, uh', um', a1, a2, a3, Or.inl ⟨a4, a5⟩⟩
  · obtain ⟨c, u9, v9, c0, f1, f2, f3, f4, f5, f6, f7, f8, f9⟩ := ld_begin (fu := fu) (by omega) (ldB_8 hr) hn hSt hMod hV hyB hEM hC hK h7
    have hSt9 : rSt 8193 (ldB uh n) n T F l4.length l5.length G z LL AA tt u9 v9 := rSt_fv (rSt_fu hSt f4 (by decide)) f5 (by decide)
    have hF64 : F.length ≤ 64 := hSt.2.1.2.1
    have hEx : rEx F G l7 w v8 := by
      obtain ⟨-, -, -, c4, -⟩ := hC
      obtain ⟨-, -, -, -, -, m6, -⟩ := hEM
      obtain ⟨-, -, V4, V5, V6, V7, -, -⟩ := hV.1
      refine ⟨c4, m6, V7.1, fun k a ha => ?_⟩
      have hk := ex_kind hMod.2.2.2.2.2.1 ha
      have hb := (V7.2 k a ha).1
      rw [ex_bound hk] at hb
      refine ⟨hk, ?_, fun q => ?_, fun q => ?_⟩
      · have := V4.1
        have := V5.1
        have := V6.1
        by_cases q0 : a.2.1 = 0
        · rw [if_pos q0] at hb; omega
        · rw [if_neg q0] at hb
          by_cases q1 : a.2.1 = 1
          · rw [if_pos q1] at hb; omega
          · rw [if_neg q1] at hb
            by_cases q2 : a.2.1 = 2
            · rw [if_pos q2] at hb; omega
            · rw [if_neg q2] at hb; omega
      · rw [if_pos q] at hb; exact hb
      · rw [q, if_neg (by decide), if_neg (by decide), if_neg (by decide)] at hb; exact hb
    have hEx9 := rEx_f hEx f4 (by decide) f5 (by decide)
    obtain ⟨⟨k0, kA1, k1, k2, k3, k4, k5, k6⟩, ⟨k28, -⟩, -, -, m0, m1, m2, m3, m31, m30, m26⟩ := hK
    have eH : jb_House_load_70 fu (n' + 1) (nI F.length) w = if c = 0 then (if u9.1 6 = (-1 : Int32) then some (0, xs_I u9 28 0) else xs_seq (fm_Machine_run fu (u9.1 6) (1000 : Int32) u9) fun a20 u21 => some (a20, xs_I (xs_I u21 3 (u21.1 23)) 28 0)) else some (nI c, xs_I u9 28 0) := by
      unfold jb_House_load_70 jb_House_load_162
      simp only [xs_let]
      rw [hSt.2.1.1, if_pos (Int32.le_refl _), f1, ys_seq]
      by_cases q : c = 0
      · rw [if_pos q, if_pos (show nI c = 0 by rw [q]; rfl), q]; rfl
      · rw [if_neg q, if_neg (fun t => by have := (nI_eq (b := 0) (by omega) (by decide)).mp t; omega)]
    have eM : fm_Model_load fu um = xs_seq (jb_Model_instance_288 fu v9) fun _ u9 => some (u9.1 29, u9) := by rw [e2, f2]
    rw [e1, eH, eM]
    -- a rest without a run
    have rest : ∀ (uf vf : xk_St) (H : rH), yf_fr [3, 4, 23, 24, 25, 26, 27, 28, 29, 30, 31, 32, 33, 34] [] [37, 38, 39, 40, 41, 42, 43, 44, 45, 46, 47, 48, 49, 50] [10, 11, 12] w uf → yf_fr [4, 5, 6, 7, 8, 9, 10, 11, 16, 23, 25, 26, 27, 28, 29, 30, 31, 32, 33, 34] [0, 1, 2] [27, 28, 29, 30, 31, 32, 33, 34, 35, 36, 37, 38, 39, 40, 41, 42] [2, 3, 4, 5] v8 vf → uf.1 4 = 1 → vf.1 25 = 1 → uf.1 28 = 0 → vf.1 26 = 0 → vf.1 31 = 0 → uf.1 3 = vf.1 30 → rSt 8193 (ldB uh n) n T F l4.length l5.length G z LL AA tt uf vf → RD T F l4.length H G uf vf → rRel uf vf := by
      intro uf vf H hu hv x1 x2 x3 x4 x5 x6 x7 x8
      refine ⟨rB_ld (n := n) hr ?_ ?_ ?_ ?_ ?_ ?_ ?_ ?_ ?_ ?_ ?_ x5 x6 x3 x4 (hFr_of x8.1) (hMz_of x8.2.2.1), Or.inr ⟨x1, x2, 8193, ldB uh n, n, T, F, l4.length, l5.length, G, l7, z, LL, AA, tt, H, x7, x8, ?_, rEx_f hEx hu (by decide) hv (by decide), hFt⟩⟩
      · rw [hu.2.2.1 0 (by decide)]; exact k0
      · rw [hv.2.2.1 0 (by decide)]; exact m0
      · rw [hu.2.2.1 1 (by decide)]; exact kA1
      · exact x7.2.2.2.2.1
      · rw [hu.1 0 (by decide)]; exact k1
      · rw [hv.1 1 (by decide)]; exact m1
      · rw [hu.1 1 (by decide)]; exact k2
      · rw [hv.1 2 (by decide)]; exact m2
      · rw [hu.2.2.2 0 (by decide)]; exact k3
      · rw [hv.2.2.2 0 (by decide)]; exact m3
      · rw [hu.1 2 (by decide)]; exact k4
      · rw [hu.2.2.1 1 (by decide)]; exact kA1
    have rest9 : rRel (xs_I u9 28 0) v9 := by
      have hx : yf_fr [28] [] [] [] u9 (xs_I u9 28 0) := yf_I yf_refl (by decide)
      refine rest (xs_I u9 28 0) v9 [] (yf_I (yf_mono f4 (by decide)) (by decide)) (yf_mono f5 (by decide)) f6 f7 rfl f8 ?_ ?_ (rSt_fu hSt9 hx (by decide)) (RD_fu f9 hx (by decide))
      · rw [f5.1 31 (by decide)]; exact m31
      · show u9.1 3 = v9.1 30
        rw [f4.1 3 (by decide), f5.1 30 (by decide), k5, m30]
    by_cases q : c = 0
    · rw [if_pos q]
      have v29 : v9.1 29 = 0 := by rw [f3, q]; rfl
      have u6 : u9.1 6 = yst_h n8 := by rw [f4.1 6 (by decide)]; exact hC.2.2.2.2.1
      have v20 : v9.1 20 = yst_m n8 := by rw [f5.1 20 (by decide)]; exact hEM.2.2.2.2.2.2
      unfold jb_Model_instance_288
      rw [if_pos v29, u6, v20]
      cases h8 : n8 with
      | none =>
        rw [show yst_h none = (-1 : Int32) from rfl, show yst_m none = (-1 : Int32) from rfl, if_pos rfl, if_pos (by decide), ys_seq, v29]
        exact ⟨0, _, _, rfl, rfl, rest9⟩
      | some f =>
        obtain ⟨t, cc, hF, hT, hp0, hr0⟩ := hV.1.2.2.2.2.2.2.1 f h8
        have hfl := yl_lt hF
        have htt : tt f = t := by
          rcases hFt f with y | y
          · exact Option.some.inj (y.symm.trans hF)
          · omega
        have hcc : T[tt f]? = some cc := by rw [htt]; exact hT
        have hp : cc.2.1 = [] := List.eq_nil_of_length_eq_zero hp0
        have hrs : cc.2.2 = [] := List.eq_nil_of_length_eq_zero hr0
        have u28 : u9.1 28 = 0 := by rw [f4.1 28 (by decide)]; exact k28
        have hRS : RS T [] cc.2.1 u9 v9 := by rw [hp]; exact ⟨u28, f8, by decide, (fun i c hc => by cases hc)⟩
        obtain ⟨u', v', r1, r2, r3⟩ := rn_run (fu := fu) (f := f) (tn := 1000) hfu hSt9 f9 hfl hcc hRS v29 (by decide)
        obtain ⟨v2, rr, s1, s2, s3, s4, s5, s6, s7, s8, s9⟩ := mr_149 (fu := fu) (by omega) (by rw [hrs]; decide) r3
        have hfm : fm_Model_run fu (nI f) (lN 1000) v9 = some ((), v2) := r2.trans s1
        have hfu' := yf_fm_Machine_run _ _ r1
        have hfv2 := yf_fm_Model_run _ _ hfm
        have e6 : yst_h (some f) = nI f := by
          show nI (yn_c f) = nI f
          rw [yn_cs (by omega)]
        have e20 : yst_m (some f) = nI f := rfl
        rw [e6, e20, if_neg (fun t => by have := congrArg Int32.toInt t; rw [pkT32 (by omega)] at this; have : (f : Int) = -1 := this; omega), if_neg (show ¬ nI f < (0 : Int32) from fun t => nI_inc (k := f) (N := 100) (by omega) (by decide) (Or.inl t))]
        have r1' : fm_Machine_run fu (nI f) 1000 u9 = some (u'.1 27, u') := r1
        have hfm' : fm_Model_run fu (nI f) 1000 v9 = some ((), v2) := hfm
        rw [r1', ys_seq, hfm', ys_seq, ys_seq]
        have hcode : u'.1 27 = v2.1 29 := by
          obtain ⟨H0, tn0, hL0, he⟩ := r3
          rw [s4]
          rcases he with ⟨t, -, -, t2, t3⟩ | ⟨t1, t2, -⟩
          · rw [t2, t3]
          · rw [t1, t2]
        refine ⟨u'.1 27, _, v2, rfl, by rw [hcode], ?_⟩
        obtain ⟨H, tn', hL, -⟩ := r3
        have hx : yf_fr [3, 28] [] [] [] u' (xs_I (xs_I u' 3 (u'.1 23)) 28 0) := yf_I (yf_I yf_refl (by decide)) (by decide)
        refine rest _ v2 H (yf_trans (yf_trans (yf_mono f4 (by decide)) (yf_mono hfu' (by decide))) (yf_mono hx (by decide))) (yf_trans (yf_mono f5 (by decide)) (yf_mono hfv2 (by decide))) ?_ ?_ rfl s2 ?_ ?_ (rSt_fv (rSt_fu hL.1 hx (by decide)) s9 (by decide)) (RD_fv (RD_fu hL.2.1 hx (by decide)) s9 (by decide))
        · show u'.1 4 = 1
          rw [hfu'.1 4 (by decide)]; exact f6
        · rw [hfv2.1 25 (by decide)]; exact f7
        · rw [s6]
          by_cases y : u'.1 27 = 0
          · rw [(s8 y).1, hrs]; rfl
          · rw [s7 y]; rfl
        · show u'.1 23 = v2.1 30
          rw [s5]
    · rw [if_neg q]
      have v29 : ¬ v9.1 29 = 0 := by rw [f3]; exact fun t => by have := (nI_eq (b := 0) (by omega) (by decide)).mp t; omega
      unfold jb_Model_instance_288
      rw [if_neg v29, ys_seq, f3]
      exact ⟨nI c, _, _, rfl, rfl, rest9⟩
end
