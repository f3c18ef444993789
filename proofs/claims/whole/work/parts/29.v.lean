section
variable {α β γ δ σ τ : Type} {u v w u0 : xk_St} {g : Nat → Nat} {T : List (Nat × List Nat × List Nat)} {n fu : Nat} {Q Q' : List sFr} {s : Option (List sFr)}
/-- a length, by the reference -/
theorem ml_len (h : mK T u0 (some Q) v) (h9 : u0.1 9 = nI 15) : MC (fm_Model_checkObjects fu v) fun _ w => mO T u0 (sq_len T Q) w := by
  have h64 := h.1.2.1.1
  unfold fm_Model_checkObjects
  rw [(mK_8 h).2.1, h9, if_pos (show (6 : Int32) ≤ nI 15 by decide), if_pos (show (9 : Int32) ≤ nI 15 by decide), if_pos (show nI 15 = (15 : Int32) from rfl)]
  refine MC_seq (ml_popR h) fun b w hb => ?_
  obtain ⟨c, rfl, hc, hk⟩ := hb
  have hk0 : mKv T u0 (sq_popR Q) c w := hk
  have hR := ml_R hk0
  have c0 : nI c = (0 : Int32) ↔ c = 0 := nI_eq (b := 0) (by have := yvs_b hc; omega) (by decide)
  have go : ∀ (P : Prop) (x : Int32), (x = 0 ∨ x = 1) → (x = 0 ↔ w.1 7 = 0 ∧ P) → (w.1 7 = 0 → (P ↔ c = 0 ∨ c = 816 ∨ (20 ≤ c ∧ yv_k T 94 ((c - 20) / 2)))) → MC (jb_Model_checkObjects_98 fu x w) fun _ w => mO T u0 (sq_len T Q) w := fun P x hx h0 hP => by
    have hfl := ml_flag hR hx h0
    unfold jb_Model_checkObjects_98
    simp only [xs_let]
    rw [if_pos hx]
    refine MC_seq (ml_push (c := 1) hfl yvs_1) fun _ y hy => MC_ok ?_
    have e : sq_len T Q = (xs_if P ((sq_popR Q).bind fun x => some x.2)).bind (sq_push 1) := by
      unfold sq_len
      cases ep : sq_popR Q with
      | none =>
        show none = (xs_if P none).bind _
        by_cases z : P
        · rw [xs_ifp z]; rfl
        · rw [xs_ifn z]; rfl
      | some y =>
        have hk1 := hk0
        rw [ep] at hk1
        have hcy := mKv_c hk1
        have h7 : w.1 7 = 0 := by
          obtain ⟨-, ⟨q, -, -, hs⟩, -⟩ := hk1
          rcases hs with ⟨-, t⟩ | ⟨t, -⟩
          · exact t
          · cases t
        have hPP := hP h7
        rw [hcy] at hPP
        show xs_if (y.1 = 0 ∨ y.1 = 816 ∨ (20 ≤ y.1 ∧ yv_k T 94 ((y.1 - 20) / 2))) (sq_push 1 y.2) = (xs_if P (some y.2)).bind (sq_push 1)
        by_cases z : P
        · rw [xs_ifp z, xs_ifp (hPP.mp z)]; rfl
        · rw [xs_ifn z, xs_ifn (fun t => z (hPP.mpr t))]; rfl
    rw [e]
    exact mO_K hy
  have h60 : ∀ (tt : Int32), (w.1 7 = 0 → (tt = 400 → c = 0 ∨ c = 816) ∧ (¬ tt = 400 → ∃ k, 16 ≤ c ∧ c < 150 ∧ k = (c - 16) / 2 ∧ tt = nI k)) → MC (jb_Model_checkObjects_60 fu tt w) fun _ w => mO T u0 (sq_len T Q) w := fun tt htt => by
    unfold jb_Model_checkObjects_60 jb_Model_checkObjects_93 jb_Model_checkObjects_97
    by_cases z7 : w.1 7 = 0
    · rw [if_pos z7]
      obtain ⟨t1, t2⟩ := htt z7
      by_cases z4 : tt = 400
      · rw [if_pos z4]
        exact go True 0 (Or.inl rfl) ⟨fun _ => ⟨z7, trivial⟩, fun _ => rfl⟩ (fun _ => ⟨fun _ => (t1 z4).imp id Or.inl, fun _ => trivial⟩)
      · rw [if_neg z4]
        obtain ⟨k, k1, k2, rfl, rfl⟩ := t2 z4
        have cl : nI ((c - 16) / 2) < (2 : Int32) ↔ c < 20 := (nI_ltI (b := 2) (by omega) (by decide)).trans ⟨fun y => by omega, fun y => by omega⟩
        by_cases z5 : c < 20
        · rw [if_pos (cl.mpr z5)]
          exact go False 1 (Or.inr rfl) ⟨fun y => absurd y (by decide), fun y => y.2.elim⟩ (fun _ => ⟨False.elim, fun y => by omega⟩)
        · rw [if_neg (fun y => z5 (cl.mp y))]
          have hvw : (c - 20) / 2 < T.length := by rcases hc with y | y | y; omega; omega; have := y.2.2; omega
          have es : nI ((c - 16) / 2) - 2 = nI ((c - 20) / 2) := by
            have := nI_sub2 (a := (c - 20) / 2)
            rw [show (c - 20) / 2 + 2 = (c - 16) / 2 by omega] at this
            exact this
          obtain ⟨d, hd⟩ := yl_get (l := T) hvw
          have hkm := (yTM_K hk.1 _ d hvw hd)
          rw [es, if_neg (nI_in (N := 64) (by omega) (by decide)), nI_clamp (by omega), hkm.1]
          have h2 : nI (96 - d.1) = (2 : Int32) ↔ d.1 = 94 := by
            have := hkm.2.1
            exact (nI_eq (b := 2) (by omega) (by decide)).trans ⟨fun z => by omega, fun z => by omega⟩
          have hyk : yv_k T 94 ((c - 20) / 2) ↔ d.1 = 94 := ⟨fun ⟨d', q1, q2⟩ => by rw [hd] at q1; cases q1; exact q2, fun q => ⟨d, hd, q⟩⟩
          by_cases z6 : d.1 = 94
          · rw [if_pos (h2.mpr z6)]
            exact go True 0 (Or.inl rfl) ⟨fun _ => ⟨z7, trivial⟩, fun _ => rfl⟩ (fun _ => ⟨fun _ => Or.inr (Or.inr ⟨by omega, hyk.mpr z6⟩), fun _ => trivial⟩)
          · rw [if_neg (fun y => z6 (h2.mp y))]
            exact go False 1 (Or.inr rfl) ⟨fun y => absurd y (by decide), fun y => y.2.elim⟩ (fun _ => ⟨False.elim, fun y => by rcases y with y | y | y; omega; omega; exact z6 (hyk.mp y.2)⟩)
    · rw [if_neg z7]
      exact go False 1 (Or.inr rfl) ⟨fun y => absurd y (by decide), fun y => y.2.elim⟩ (fun y => absurd y z7)
  by_cases z0 : c = 0
  · rw [if_pos (c0.mpr z0)]
    exact h60 400 (fun _ => ⟨fun _ => Or.inl z0, fun y => absurd rfl y⟩)
  · rw [if_neg (fun y => z0 (c0.mp y))]
    have htg : fm_Model_targetOf (nI c) w = some ((nI c - 16) / 2, w) := by
      unfold fm_Model_targetOf
      rw [if_neg (show ¬ (2 : Int32) = 0 by decide)]
    rw [htg, ys_seq]
    refine h60 _ (fun h7 => ?_)
    have hc16 : 16 ≤ c := by
      obtain ⟨-, ⟨q, -, -, hs⟩, -⟩ := hk0
      rcases hs with ⟨e, -⟩ | ⟨-, t⟩
      · obtain ⟨y, -, e2⟩ := Option.bind_eq_some_iff.mp (show ((sq_pop Q).bind fun x => xs_if (x.1 = 0 ∨ 16 ≤ x.1) (some x)) = some (c, q) from e)
        obtain ⟨q1, q2⟩ := xp_if e2
        cases q2
        rcases q1 with t | t
        · exact absurd t z0
        · exact t
      · rw [t] at h7; exact absurd h7 (by decide)
    rcases yvs_b hc with y | y
    · have e := (mm_tg c y hc16).1
      rw [e]
      refine ⟨fun t => ?_, fun _ => ⟨(c - 16) / 2, hc16, y, rfl, rfl⟩⟩
      have := (nI_eq (b := 400) (by omega) (by decide)).mp t
      omega
    · refine ⟨fun _ => Or.inr y, fun t => absurd ?_ t⟩
      rw [y]; decide
end
