section
variable {α β γ δ σ τ : Type} {u v w u0 : xk_St} {g : Nat → Nat} {T : List (Nat × List Nat × List Nat)} {n fu : Nat} {Q Q' : List sFr} {s : Option (List sFr)}
def mKv (T : List (Nat × List Nat × List Nat)) (u0 : xk_St) (sv : Option (Nat × List sFr)) (c : Nat) (v : xk_St) : Prop := yTM T v ∧ mRv T sv c v ∧ yf_fr [7, 21] [] [22] [] u0 v
theorem ml_pop (h : mK T u0 s v) : MC (fm_Model_pop v) fun b w => ∃ c, b = nI c ∧ yvs T.length c ∧ mKv T u0 (s.bind sq_pop) c w := MC_mono (mr_pop h.2.1) fun _ _ ⟨c, h1, h2, h3, h4⟩ => ⟨c, h1, h2, yTM_fr h.1 h4 (by decide), h3, yf_trans h.2.2 (yf_mono h4 (by decide))⟩
theorem mKv_K {sv : Option (Nat × List sFr)} {c : Nat} (h : mKv T u0 sv c v) : mK T u0 (sv.bind fun x => some x.2) v := ⟨h.1, mRv_R h.2.1, h.2.2⟩
theorem mKv_I {sv : Option (Nat × List sFr)} {c : Nat} {x : Int32} (h : mKv T u0 sv c v) : yTM T (xs_I v 7 x) ∧ yf_fr [7, 21] [] [22] [] u0 (xs_I v 7 x) := ⟨yTM_fr h.1 (yf_I (I := [7]) (J := []) (A := []) (B := []) yf_refl (by decide)) (by decide), yf_I h.2.2 (by decide)⟩
theorem mm_isR : ∀ c, c < 150 ∨ c = 816 → fm_Model_isReference (nI c) v = some (if c < 16 then 0 else 1, v) := by
  intro c hc
  unfold fm_Model_isReference
  by_cases z : c < 16
  · rw [if_pos (show nI c < (16 : Int32) from nI_lt (b := 16) z (by decide)), if_pos z]
  · rw [if_neg (show ¬ nI c < (16 : Int32) from fun y => by have := (nI_ltI (b := 16) (by omega) (by omega)).mp y; omega), if_neg z]
theorem yvs_b {c : Nat} (h : yvs n c) : c < 150 ∨ c = 816 := by
  rcases h with h | h | h
  · exact Or.inr h
  · exact Or.inl (by omega)
  · exact Or.inl h.2.1
/-- a reference is taken off -/
theorem ml_popR (h : mK T u0 s v) : MC (fm_Model_takeReference v) fun b w => ∃ c, b = nI c ∧ yvs T.length c ∧ mKv T u0 (s.bind sq_popR) c w := by
  unfold fm_Model_takeReference jb_Model_takeReference_24
  refine MC_seq (ml_pop h) fun b w hb => ?_
  obtain ⟨c, rfl, hc, hk⟩ := hb
  have hI := fun x => mKv_I (x := x) hk
  obtain ⟨hE, ⟨Q, hS, hQ, hs⟩, hf⟩ := hk
  have hSI : ∀ y, mS T Q (xs_I w 7 y) := fun y => mS_fr hS (yf_I (I := [7]) (J := []) (A := []) (B := []) yf_refl (by decide)) (by decide)
  simp only [xs_let]
  have c0 : nI c = (0 : Int32) ↔ c = 0 := nI_eq (b := 0) (by have := yvs_b hc; omega) (by decide)
  rcases hs with ⟨e, h7⟩ | ⟨e, h7⟩
  · obtain ⟨Q0, e1, e2⟩ := Option.bind_eq_some_iff.mp e
    have hsp : s.bind sq_popR = xs_if (c = 0 ∨ 16 ≤ c) (some (c, Q)) := by
      rw [e1]
      show (sq_pop Q0).bind _ = _
      rw [e2]; rfl
    rw [if_pos h7]
    by_cases z : c = 0
    · rw [if_pos (c0.mpr z)]
      exact MC_ok ⟨c, rfl, hc, (hI 0).1, ⟨Q, hSI 0, hQ, Or.inl ⟨by rw [hsp, xs_ifp (Or.inl z)], rfl⟩⟩, (hI 0).2⟩
    · rw [if_neg (fun y => z (c0.mp y)), mm_isR c (yvs_b hc), ys_seq]
      by_cases z2 : c < 16
      · rw [if_pos z2, if_pos rfl]
        exact MC_ok ⟨c, rfl, hc, (hI 1).1, ⟨Q, hSI 1, hQ, Or.inr ⟨by rw [hsp, xs_ifn (by omega)], rfl⟩⟩, (hI 1).2⟩
      · rw [if_neg z2, if_neg (show ¬ (1 : Int32) = 0 by decide)]
        exact MC_ok ⟨c, rfl, hc, (hI 0).1, ⟨Q, hSI 0, hQ, Or.inl ⟨by rw [hsp, xs_ifp (Or.inr (by omega))], rfl⟩⟩, (hI 0).2⟩
  · rw [if_neg (by rw [h7]; decide)]
    refine MC_ok ⟨c, rfl, hc, (hI 1).1, ⟨Q, hSI 1, hQ, Or.inr ⟨?_, rfl⟩⟩, (hI 1).2⟩
    cases s with
    | none => rfl
    | some Q0 =>
      have e : sq_pop Q0 = none := e
      show (sq_pop Q0).bind _ = _
      rw [e]; rfl
/-- the rest can't be come to -/
theorem mr_lose (h : mR T s v) : MC (fm_Model_unreachable v) fun _ w => mR T (s.bind fun Q => some (sq_lose Q)) w ∧ yf_fr [21] [] [26] [] v w := by
  obtain ⟨Q, hS, hQ, hs⟩ := h
  obtain ⟨h1, h2, h3, h4, h5, h6, h7⟩ := hS
  cases Q with
  | nil => exact absurd rfl hQ
  | cons f r =>
    have hlen : (f :: r).length = r.length + 1 := List.length_cons
    have hsum : sq_h (f :: r) = f.2.2.2.2.length + sq_h r := rfl
    unfold fm_Model_unreachable
    simp only [xs_let]
    rw [h1, hlen, nI_pred, ix101 (by omega), nI_clamp (by omega), h6.1.2.2.2.2.1]
    have e22 : (xs_I v 21 (nI (sq_h r))).1 22 = nI (r.length + 1) := by rw [← hlen]; exact h1
    rw [e22, nI_pred, ix101 (by omega), nI_clamp (by omega)]
    have hne : ¬ sq_lose (f :: r) = [] := fun z => by cases z
    have hnar : vp_nar .boolean (1 : Int32) = 1 := by decide
    rw [hnar]
    have hnew : mS T (sq_lose (f :: r)) (xs_A (xs_I v 21 (nI (sq_h r))) 26 r.length 1) := by
      refine ⟨h1, h2, ?_, ?_, fun i d hd => ?_, ⟨⟨h6.1.1, h6.1.2.1, h6.1.2.2.1, h6.1.2.2.2.1, h6.1.2.2.2.2.1, ?_⟩, ?_⟩, ⟨fun i d hd => by simp at hd, h7.2.1, h7.2.2⟩⟩
      · show nI (sq_h r) = nI (0 + sq_h r)
        rw [Nat.zero_add]
      · show 0 + sq_h r ≤ 100
        omega
      · refine h5 i d ?_
        have hd : (sq_f r ++ ([] : List Nat).reverse)[i]? = some d := hd
        rw [List.reverse_nil, List.append_nil] at hd
        show (sq_f r ++ f.2.2.2.2.reverse)[i]? = some d
        rw [List.getElem?_append_left (yl_lt hd)]
        exact hd
      · show upd (v.2.2.1 26) r.length 1 r.length = _
        rw [ya_t]; rfl
      · refine sq_Am h6.2 fun j f b hj hp => ⟨hp.1, hp.2.1, hp.2.2.1, hp.2.2.2.1, hp.2.2.2.2.1, ?_⟩
        show upd (v.2.2.1 26) r.length 1 j = _
        rw [ya_j (by omega)]
        exact hp.2.2.2.2.2
    refine MC_ok ⟨⟨_, hnew, hne, ?_⟩, yf_A (yf_I yf_refl (by decide)) (by decide)⟩
    rcases hs with ⟨rfl, hs7⟩ | ⟨rfl, hs7⟩
    · exact Or.inl ⟨rfl, hs7⟩
    · exact Or.inr ⟨rfl, hs7⟩
/-- block f as the reference has it at its place -/
def mF (T : List (Nat × List Nat × List Nat)) (v : xk_St) (j : Nat) (f : sFr) : Prop := v.2.2.1 24 j = nI f.2.1 ∧ v.2.2.2 1 j = yb_m f.2.2.1 ∧ sb_ok T f.2.2.1 ∧ sb_rd f.2.2.1 ∧ f.2.1 < 10 ∧ j < 100
theorem mF_fr {I J A C : List Nat} {j : Nat} {f : sFr} (h : mF T v j f) (hf : yf_fr I J A C v w) (hd : (yf_no [24] A && yf_no [1] C) = true) : mF T w j f := by
  have hd := Bool.and_eq_true_iff.mp hd
  unfold mF
  rw [hf.2.2.1 24 (yf_nok hd.1 (by simp)), hf.2.2.2 1 (yf_nok hd.2 (by simp))]
  exact h
theorem mS_get {d : Nat} {f : sFr} (h : mS T Q v) (hd : Q[d]? = some f) : mF T v (Q.length - 1 - d) f := by
  obtain ⟨b, hp⟩ := sq_Aget h.2.2.2.2.2.1 hd
  obtain ⟨o1, o2, o3⟩ := sq_okget h.2.2.2.2.2.2 hd
  have := yl_lt hd
  exact ⟨hp.2.2.1, hp.2.2.2.1, o1, o2, o3, by have := h.2.1; omega⟩
/-- the block that a number leads to -/
theorem ml_out {d : Nat} (h : mK T u0 s v) (hd : d < 2 ^ 32) : (∃ j f, fm_Model_out (lN d) v = some (nI j, v) ∧ mF T v j f ∧ ∀ Q, s = some Q → Q[d]? = some f) ∨ (fm_Model_out (lN d) v = some (-1, xs_I v 7 1) ∧ ∀ Q, s = some Q → Q[d]? = none) := by
  obtain ⟨hE, ⟨Q, hS, hQ, hs⟩, hf⟩ := h
  have h100 := hS.2.1
  unfold fm_Model_out
  rw [hS.1, nI_toL (by omega)]
  have hlt : lN d < lN Q.length ↔ d < Q.length := pk_lLT (by omega) (by omega)
  by_cases z : d < Q.length
  · obtain ⟨f, hfd⟩ := yl_get (l := Q) z
    refine Or.inl ⟨Q.length - 1 - d, f, ?_, mS_get hS hfd, fun Q0 e => ?_⟩
    · rw [if_pos (hlt.mpr z)]
      have e1 : nI Q.length - 1 - (lN d).toInt32 = nI (Q.length - 1 - d) := by
        have : (lN d).toInt32 = nI d := by rw [← nI_toL (n := d) (by omega)]; exact Int32.toInt32_toInt64 _
        rw [this, show nI Q.length = nI (Q.length - 1 + 1) by rw [show Q.length - 1 + 1 = Q.length by omega], nI_pred]
        have := nI_subb (a := Q.length - 1 - d) (b := d)
        rw [show Q.length - 1 - d + d = Q.length - 1 by omega] at this
        exact this
      rw [e1]
    · rcases hs with ⟨e2, -⟩ | ⟨e2, -⟩
      · rw [e2] at e; cases e; exact hfd
      · rw [e2] at e; cases e
  · refine Or.inr ⟨?_, fun Q0 e => ?_⟩
    · rw [if_neg (fun y => z (hlt.mp y))]
      rfl
    · rcases hs with ⟨e2, -⟩ | ⟨e2, -⟩
      · rw [e2] at e; cases e; exact List.getElem?_eq_none (by omega)
      · rw [e2] at e; cases e
theorem sb_labp {f : sFr} : sb_lab T f = sb_pr T (decide (¬ f.2.1 = 3)) f.2.2.1 := by
  unfold sb_lab sb_pr
  by_cases z : f.2.1 = 3
  · rw [if_pos z, if_neg (by simp [z])]
  · rw [if_neg z, if_pos (by simp [z])]
theorem mb_leads {j : Nat} {f : sFr} (h : mF T v j f) : fm_Model_leadsToResults (nI j) v = some (if (decide (¬ f.2.1 = 3)) then 1 else 0, v) := by
  obtain ⟨h1, h2, h3, h4, h5, h6⟩ := h
  unfold fm_Model_leadsToResults
  rw [ix101 (by omega), nI_clamp (by omega), h1]
  have c3 : nI f.2.1 = (3 : Int32) ↔ f.2.1 = 3 := nI_eq (b := 3) (by omega) (by decide)
  by_cases z : f.2.1 = 3
  · rw [if_pos (c3.mpr z), if_neg (by simp [z])]
  · rw [if_neg (fun y => z (c3.mp y)), if_pos (by simp [z])]
/-- what a way takes, and what stays behind it -/
theorem ml_takeEnd {j : Nat} {f : sFr} (hfu : 200 ≤ fu) (h : mK T u0 s v) (hF : mF T v j f) : MC (fm_Model_takeEnd fu (nI j) v) fun _ w => mK T u0 (s.bind (sq_takes (yl_f T) (sb_lab T f).reverse)) w := by
  unfold fm_Model_takeEnd
  have h6 := hF.2.2.2.2.2
  rw [ix101 (by omega), mb_leads hF, ys_seq, nI_clamp (by omega), hF.2.1]
  refine MC_seq (ml_takeAll hfu h hF.2.2.1 hF.2.2.2.1) fun _ w hw => MC_ok ?_
  rw [sb_labp]
  exact hw
theorem ml_bringEnd {j : Nat} {f : sFr} (hfu : 200 ≤ fu) (h : mK T u0 s v) (hF : mF T v j f) : MC (fm_Model_bringEnd fu (nI j) v) fun _ w => mK T u0 (s.bind (sq_pushes (sb_lab T f))) w := by
  unfold fm_Model_bringEnd
  have h6 := hF.2.2.2.2.2
  rw [ix101 (by omega), mb_leads hF, ys_seq, nI_clamp (by omega), hF.2.1]
  refine MC_seq (ml_bring hfu h hF.2.2.1 hF.2.2.2.1) fun _ w hw => MC_ok ?_
  rw [sb_labp]
  exact hw
end
