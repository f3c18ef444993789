section
variable {α β γ δ σ τ : Type} {u v w u0 : xk_St} {g : Nat → Nat} {T : List (Nat × List Nat × List Nat)} {F : List Nat} {G : List (Nat × Nat × Nat × Int64)} {L : List Nat} {n fu tc mc : Nat} {Q Q' : List sFr} {s : Option (List sFr)}
theorem ml_220 {b : Bool} {t : Option Nat ⊕ Int64} {x : Int32} {P : Prop} (hfu : 200 ≤ fu) (h : mK T u0 s v) (hk : sb_ok T t) (hr : sb_rd t) (hx : x = 0 ∨ x = 1) (h0 : x = 0 ↔ v.1 7 = 0 ∧ P) (hP : P → 0 < (sb_pr T b t).length) : MC (jb_Model_checkReferences_220 fu (yb_m t) (if b then 1 else 0) (nI (sb_pr T b t).length) x v) fun _ w => mK T u0 ((xs_if P s).bind (sq_sg T ((sb_pr T b t).take ((sb_pr T b t).length - 1)).reverse ((sb_pr T b t).take ((sb_pr T b t).length - 1)))) w := by
  have hfl := ml_flag h hx h0
  obtain ⟨hl, -⟩ := sb_prV (b := b) h.1 hk hr
  unfold jb_Model_checkReferences_220
  simp only [xs_let]
  rw [if_pos hx]
  obtain ⟨fu1, hfu1⟩ : ∃ m, fu = m + 1 := ⟨fu - 1, by omega⟩
  by_cases z : (sb_pr T b t).length = 0
  · -- nothing to take: it is wrong
    have hno : ¬ P := fun y => by have := hP y; omega
    rw [xs_ifn hno] at hfl ⊢
    rw [z]
    have e1 : jb_Model_checkReferences_229 fu fu (yb_m t) (if b then 1 else 0) (nI 0) (nI 0 - 2) (xs_I v 7 x) = some ((), xs_I v 7 x) := by
      rw [hfu1]
      unfold jb_Model_checkReferences_229 jb_Model_checkReferences_260
      simp only [xs_let]
      rw [if_pos (show nI 0 - 2 < (0 : Int32) by decide)]
      unfold jb_Model_checkReferences_263
      simp only [xs_let]
      rw [if_pos (show nI 0 - 1 ≤ (0 : Int32) by decide)]
    rw [e1]
    exact MC_ok hfl
  · obtain ⟨m, hm⟩ : ∃ m, m + 1 = (sb_pr T b t).length := ⟨(sb_pr T b t).length - 1, by omega⟩
    have e2 : nI (sb_pr T b t).length - 2 = nI m + (-1) := by
      rw [← hm, ← nI_add, Int32.sub_eq_add_neg, Int32.add_assoc]
      congr 1
    rw [e2]
    obtain ⟨w, w1, w2⟩ := ml_229 (fu := fu) (m := m) (E := fun v => jb_Model_checkReferences_260 fu (yb_m t) (if b then 1 else 0) (nI (sb_pr T b t).length) v) hk hr (by omega) (fun _ => rfl) m fu _ (xs_I v 7 x) (Nat.le_refl _) (by omega) hfl
    rw [w1]
    unfold jb_Model_checkReferences_260
    have := ml_263 (fu := fu) hk hr hm m 0 fu _ w (by omega) (by omega) w2
    refine MC_mono this fun _ y hy => ?_
    rw [List.drop_zero] at hy
    rw [show (sb_pr T b t).length - 1 = m by omega]
    have e : (xs_if P s).bind (sq_sg T ((sb_pr T b t).take m).reverse ((sb_pr T b t).take m)) = ((xs_if P s).bind (sq_takes (yl_f T) ((sb_pr T b t).take m).reverse)).bind (sq_pushes ((sb_pr T b t).take m)) := by
      rw [Option.bind_assoc]; rfl
    rw [e]
    exact hy
theorem ml_214 {d : Nat} (hfu : 200 ≤ fu) (h : mK T u0 (some Q) v) (h8 : u0.1 8 = nI 214) (hj : u0.2.1 0 = lN d) (hd : d < 2 ^ 32) : MC (fm_Model_checkReferences fu v) fun _ w => mO T u0 (sq_brnn T d Q) w := by
  unfold fm_Model_checkReferences jb_Model_checkReferences_215
  rw [(mK_8 h).1, h8, if_neg (show ¬ nI 214 = (208 : Int32) by decide)]
  refine MC_seq (ml_popR h) fun b w hb => ?_
  obtain ⟨c, rfl, hc, hk⟩ := hb
  have hk0 : mKv T u0 (sq_popR Q) c w := hk
  have hR := ml_R hk0
  rw [(mKv_8 hk).1, h8, if_neg (show ¬ nI 214 = (209 : Int32) by decide), if_neg (show ¬ nI 214 = (211 : Int32) by decide), if_neg (show ¬ nI 214 = (212 : Int32) by decide), (mKv_8 hk).2.2, hj]
  rcases ml_out hR hd with ⟨j, f, e1, hF, hf⟩ | ⟨e1, hf⟩
  · have h6 := hF.2.2.2.2.2
    rw [e1, ys_seq, if_pos (show (0 : Int32) ≤ nI j from nI_le (a := 0) (by omega) (by omega)), (mKv_8 hk).1, h8, if_neg (show ¬ nI 214 = (213 : Int32) by decide), ix101 (by omega)]
    simp only [xs_let]
    rw [nI_clamp (by omega), hF.2.1, mb_leads hF, ys_seq, mb_count hR.1 hF.2.2.1 hF.2.2.2.1, ys_seq]
    obtain ⟨hl, hv⟩ := sb_prV (b := decide (¬ f.2.1 = 3)) hR.1 hF.2.2.1 hF.2.2.2.1
    -- the condition
    have key : ∀ P : Prop, (∀ y, sq_popR Q = some y → sq_brnn T d Q = xs_if P (sq_sg T ((sb_lab T f).take ((sb_lab T f).length - 1)).reverse ((sb_lab T f).take ((sb_lab T f).length - 1)) y.2)) → ∀ x : Int32, (x = 0 ∨ x = 1) → (x = 0 ↔ w.1 7 = 0 ∧ P) → (P → 0 < (sb_pr T (decide (¬ f.2.1 = 3)) f.2.2.1).length) → MC (jb_Model_checkReferences_220 fu (yb_m f.2.2.1) (if decide (¬ f.2.1 = 3) = true then 1 else 0) (nI (sb_pr T (decide (¬ f.2.1 = 3)) f.2.2.1).length) x w) fun _ w => mO T u0 (sq_brnn T d Q) w := fun P hsp x hx h0 hP => by
      refine MC_mono (ml_220 hfu hR hF.2.2.1 hF.2.2.2.1 hx h0 hP) fun _ y hy => ?_
      have e : sq_brnn T d Q = (xs_if P ((sq_popR Q).bind fun x => some x.2)).bind (sq_sg T ((sb_pr T (decide (¬ f.2.1 = 3)) f.2.2.1).take ((sb_pr T (decide (¬ f.2.1 = 3)) f.2.2.1).length - 1)).reverse ((sb_pr T (decide (¬ f.2.1 = 3)) f.2.2.1).take ((sb_pr T (decide (¬ f.2.1 = 3)) f.2.2.1).length - 1))) := by
        rw [← sb_labp]
        cases ep : sq_popR Q with
        | none =>
          unfold sq_brnn
          rw [ep]
          show none = (xs_if P none).bind _
          by_cases z : P
          · rw [xs_ifp z]; rfl
          · rw [xs_ifn z]; rfl
        | some y =>
          rw [hsp y ep]
          show _ = (xs_if P (some y.2)).bind _
          by_cases z : P
          · rw [xs_ifp z, xs_ifp z]; rfl
          · rw [xs_ifn z, xs_ifn z]; rfl
      rw [e]
      exact mO_K hy
    have hsp0 : ∀ y, sq_popR Q = some y → sq_brnn T d Q = ((sb_lab T f)[(sb_lab T f).length - 1]?.bind fun w => xs_if (yfit (yl_f T) (sq_nn c) w) (sq_sg T ((sb_lab T f).take ((sb_lab T f).length - 1)).reverse ((sb_lab T f).take ((sb_lab T f).length - 1)) y.2)) := fun y ep => by
      unfold sq_brnn
      rw [ep] at hk0 hf ⊢
      rw [mKv_c hk0]
      show (y.2[d]?.bind fun f => _) = _
      rw [hf y.2 rfl]
      rfl
    rcases mk_s hR with ⟨Q0, eQ, h7⟩ | ⟨eQ, h7⟩
    · rw [if_pos h7]
      have cz : nI (sb_pr T (decide (¬ f.2.1 = 3)) f.2.2.1).length = (0 : Int32) ↔ (sb_pr T (decide (¬ f.2.1 = 3)) f.2.2.1).length = 0 := nI_eq (b := 0) (by omega) (by decide)
      by_cases z : (sb_pr T (decide (¬ f.2.1 = 3)) f.2.2.1).length = 0
      · rw [if_pos (cz.mpr z)]
        refine key False (fun y ep => ?_) 1 (Or.inr rfl) ⟨fun y => absurd y (by decide), fun y => y.2.elim⟩ False.elim
        rw [hsp0 y ep, sb_labp, List.getElem?_eq_none (by omega), xs_ifn id]; rfl
      · rw [if_neg (fun y => z (cz.mp y)), mm_nn hc, ys_seq]
        obtain ⟨m, hm⟩ : ∃ m, m + 1 = (sb_pr T (decide (¬ f.2.1 = 3)) f.2.2.1).length := ⟨(sb_pr T (decide (¬ f.2.1 = 3)) f.2.2.1).length - 1, by omega⟩
        obtain ⟨x, hx⟩ := yl_get (l := sb_pr T (decide (¬ f.2.1 = 3)) f.2.2.1) (k := m) (by omega)
        rw [show nI (sb_pr T (decide (¬ f.2.1 = 3)) f.2.2.1).length - 1 = nI m by rw [← hm, nI_pred], mb_type hR.1 hF.2.2.1 hF.2.2.2.1 hx, ys_seq]
        obtain ⟨m1, m2⟩ := mm_fits (T := T) (u := w) (t := sq_nn c) (x := x) (g := yl_f T) hR.1.2.1.1 (yvs_t (yvs_nn' hc)) (hv m x hx).1 hR.1.2.2.2 (yl_fle (yTM_ah hR.1))
        have hsp : ∀ y, sq_popR Q = some y → sq_brnn T d Q = xs_if (yfit (yl_f T) (sq_nn c) x) (sq_sg T ((sb_lab T f).take ((sb_lab T f).length - 1)).reverse ((sb_lab T f).take ((sb_lab T f).length - 1)) y.2) := fun y ep => by
          have e : (sb_lab T f)[(sb_lab T f).length - 1]? = some x := by
            rw [sb_labp, show (sb_pr T (decide (¬ f.2.1 = 3)) f.2.2.1).length - 1 = m by omega]; exact hx
          rw [hsp0 y ep, e]; rfl
        by_cases zf : yfit (yl_f T) (sq_nn c) x
        · rw [m1 zf, ys_seq, if_neg (show ¬ (1 : Int32) = 0 by decide)]
          exact key _ hsp 0 (Or.inl rfl) ⟨fun _ => ⟨h7, zf⟩, fun _ => rfl⟩ (fun _ => by omega)
        · rw [m2 zf, ys_seq, if_pos rfl]
          exact key _ hsp 1 (Or.inr rfl) ⟨fun y => absurd y (by decide), fun y => absurd y.2 zf⟩ (fun _ => by omega)
    · rw [if_neg (by rw [h7]; decide)]
      refine key False (fun y ep => ?_) 1 (Or.inr rfl) ⟨fun y => absurd y (by decide), fun y => y.2.elim⟩ False.elim
      rw [ep] at eQ
      cases eQ
  · rw [e1, ys_seq, if_neg (show ¬ (0 : Int32) ≤ -1 by decide)]
    have hno := mO_K (ml_no hR)
    have e : sq_brnn T d Q = none := by
      unfold sq_brnn
      cases ep : sq_popR Q with
      | none => rfl
      | some y =>
        rw [ep] at hf
        show (y.2[d]?.bind fun f => _) = none
        rw [hf y.2 rfl]; rfl
    rw [e]
    exact MC_ok hno
end
