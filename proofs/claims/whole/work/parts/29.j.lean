section
variable {α β γ δ σ τ : Type} {u v w u0 : xk_St} {g : Nat → Nat} {T : List (Nat × List Nat × List Nat)} {F : List Nat} {G : List (Nat × Nat × Nat × Int64)} {L : List Nat} {n fu tc mc : Nat} {Q Q' : List sFr} {s : Option (List sFr)}
theorem mK_8 (h : mK T u0 s v) : v.1 8 = u0.1 8 ∧ v.1 9 = u0.1 9 ∧ v.2.1 = u0.2.1 := ⟨h.2.2.1 8 (by decide), h.2.2.1 9 (by decide), funext fun k => h.2.2.2.1 k (by simp)⟩
theorem mKv_8 {sv : Option (Nat × List sFr)} {c : Nat} (h : mKv T u0 sv c v) : v.1 8 = u0.1 8 ∧ v.1 9 = u0.1 9 ∧ v.2.1 = u0.2.1 := ⟨h.2.2.1 8 (by decide), h.2.2.1 9 (by decide), funext fun k => h.2.2.2.1 k (by simp)⟩
theorem mKv_c {c : Nat} {x : Nat × List sFr} (h : mKv T u0 (some x) c v) : c = x.1 := by
  obtain ⟨-, ⟨Q, -, -, hs⟩, -⟩ := h
  rcases hs with ⟨e, -⟩ | ⟨e, -⟩
  · cases e; rfl
  · cases e
theorem mF_K {s' : Option (List sFr)} {j : Nat} {f : sFr} (h : mK T u0 s v) (h2 : mK T u0 s' w) (hF : mF T v j f) : mF T w j f := by
  unfold mF
  rw [h2.2.2.2.2.1 24 (by decide), h2.2.2.2.2.2 1 (by decide), ← h.2.2.2.2.1 24 (by decide), ← h.2.2.2.2.2 1 (by decide)]
  exact hF
theorem ml_211 (h : mK T u0 (some Q) v) (h8 : u0.1 8 = nI 211) : MC (fm_Model_checkReferences fu v) fun _ w => mO T u0 (sq_sg T [17, 17] [1] Q) w := by
  unfold fm_Model_checkReferences
  rw [(mK_8 h).1, h8, if_neg (show ¬ nI 211 = (208 : Int32) by decide)]
  refine MC_seq (ml_popR h) fun b w hb => ?_
  obtain ⟨c, rfl, hc, hk⟩ := hb
  rw [(mKv_8 hk).1, h8, if_neg (show ¬ nI 211 = (209 : Int32) by decide), if_pos (show nI 211 = (211 : Int32) from rfl)]
  unfold jb_Model_checkReferences_74 jb_Model_checkReferences_89
  rw [(mKv_8 hk).1, h8, if_pos (show nI 211 = (211 : Int32) from rfl)]
  refine MC_seq (ml_popR (ml_R hk)) fun b w hb => ?_
  obtain ⟨c2, rfl, hc2, hk2⟩ := hb
  refine MC_seq (ml_push (c := 1) (ml_R hk2) yvs_1) fun _ x hx => MC_ok ?_
  have e : sq_sg T [17, 17] [1] Q = (((((some Q).bind sq_popR).bind fun x => some x.2).bind sq_popR).bind fun x => some x.2).bind (sq_push 1) := by
    rw [sq_sgS, sq_t17]
    show (((sq_popR Q).bind fun x => some x.2).bind fun Q1 => sq_sg T [17] [1] Q1) = ((((sq_popR Q).bind fun x => some x.2).bind sq_popR).bind fun x => some x.2).bind (sq_push 1)
    cases (sq_popR Q).bind fun x => some x.2 with
    | none => rfl
    | some Q1 =>
      show sq_sg T [17] [1] Q1 = ((sq_popR Q1).bind fun x => some x.2).bind (sq_push 1)
      rw [sq_sg1, sq_t17]
  rw [e]
  exact mO_K hx
theorem ml_212 (h : mK T u0 (some Q) v) (h8 : u0.1 8 = nI 212) : MC (fm_Model_checkReferences fu v) fun _ w => mO T u0 (sq_asnn Q) w := by
  unfold fm_Model_checkReferences
  rw [(mK_8 h).1, h8, if_neg (show ¬ nI 212 = (208 : Int32) by decide)]
  refine MC_seq (ml_popR h) fun b w hb => ?_
  obtain ⟨c, rfl, hc, hk⟩ := hb
  rw [(mKv_8 hk).1, h8, if_neg (show ¬ nI 212 = (209 : Int32) by decide), if_neg (show ¬ nI 212 = (211 : Int32) by decide), if_pos (show nI 212 = (212 : Int32) from rfl), mm_nn hc, ys_seq]
  refine MC_seq (ml_push (ml_R hk) (yvs_nn' hc)) fun _ x hx => MC_ok ?_
  have e : sq_asnn Q = (((some Q).bind sq_popR).bind fun x => some x.2).bind (sq_push (sq_nn c)) := by
    unfold sq_asnn
    show _ = ((sq_popR Q).bind fun x => some x.2).bind (sq_push (sq_nn c))
    have hk : mKv T u0 (sq_popR Q) c w := hk
    cases ep : sq_popR Q with
    | none => rfl
    | some y =>
      rw [ep] at hk
      rw [mKv_c hk]; rfl
  rw [e]
  exact mO_K hx
theorem ml_213 {d : Nat} (hfu : 200 ≤ fu) (h : mK T u0 (some Q) v) (h8 : u0.1 8 = nI 213) (hj : u0.2.1 0 = lN d) (hd : d < 2 ^ 32) : MC (fm_Model_checkReferences fu v) fun _ w => mO T u0 (sq_brn T d Q) w := by
  unfold fm_Model_checkReferences
  rw [(mK_8 h).1, h8, if_neg (show ¬ nI 213 = (208 : Int32) by decide)]
  refine MC_seq (ml_popR h) fun b w hb => ?_
  obtain ⟨c, rfl, hc, hk⟩ := hb
  have hk0 : mKv T u0 (sq_popR Q) c w := hk
  have hR := ml_R hk0
  rw [(mKv_8 hk).1, h8, if_neg (show ¬ nI 213 = (209 : Int32) by decide), if_neg (show ¬ nI 213 = (211 : Int32) by decide), if_neg (show ¬ nI 213 = (212 : Int32) by decide), (mKv_8 hk).2.2, hj]
  rcases ml_out hR hd with ⟨j, f, e1, hF, hf⟩ | ⟨e1, hf⟩
  · have h6 := hF.2.2.2.2.2
    rw [e1, ys_seq, if_pos (show (0 : Int32) ≤ nI j from nI_le (a := 0) (by omega) (by omega)), (mKv_8 hk).1, h8, if_pos (show nI 213 = (213 : Int32) from rfl)]
    refine MC_seq (ml_takeEnd hfu hR hF) fun _ x hx => ?_
    refine MC_seq (ml_bringEnd hfu hx (mF_K hR hx hF)) fun _ y hy => ?_
    · rw [mm_nn hc, ys_seq]
      refine MC_seq (ml_push hy (yvs_nn' hc)) fun _ z hz => MC_ok ?_
      have e : sq_brn T d Q = ((((sq_popR Q).bind fun x => some x.2).bind (sq_takes (yl_f T) (sb_lab T f).reverse)).bind (sq_pushes (sb_lab T f))).bind (sq_push (sq_nn c)) := by
        unfold sq_brn
        cases ep : sq_popR Q with
        | none => rfl
        | some y =>
          rw [ep] at hk0 hf
          rw [mKv_c hk0]
          show (y.2[d]?.bind fun f => (sq_sg T (sb_lab T f).reverse (sb_lab T f) y.2).bind fun Q2 => sq_push (sq_nn y.1) Q2) = _
          rw [hf y.2 rfl]
          rfl
      rw [e]
      exact mO_K hz
  · rw [e1, ys_seq, if_neg (show ¬ (0 : Int32) ≤ -1 by decide)]
    have hno := mO_K (ml_no hR)
    have e : sq_brn T d Q = none := by
      unfold sq_brn
      cases ep : sq_popR Q with
      | none => rfl
      | some y =>
        rw [ep] at hf
        show (y.2[d]?.bind fun f => _) = none
        rw [hf y.2 rfl]; rfl
    rw [e]
    exact MC_ok hno
end
