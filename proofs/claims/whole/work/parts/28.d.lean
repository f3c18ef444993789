section
variable {α β γ δ σ τ : Type} {u v w : xk_St} {g : Nat → Nat} {T : List (Nat × List Nat × List Nat)} {n fu : Nat} {Q Q' : List sFr}
theorem sBt_fr {I J A C : List Nat} {e : Nat} {t : Option Nat ⊕ Int64} (h : sBt T e t v) (hf : yf_fr I J A C v w) (hd : yf_no [8] A = true) : sBt T e t w := by
  refine ⟨?_, h.2⟩
  rw [hf.2.2.1 8 (yf_nok hd (by simp))]; exact h.1
theorem sq_fr : yf_fr [19] [] [33] [] u v → ∀ k, ¬ k = 19 → v.1 k = u.1 k := fun h k hk => h.1 k (by simp [hk])
theorem sH_ne (h : sH T Q v) (hf : yf_fr [19] [] [33] [] v w) (h2 : sH T Q' w) : Q'.length = Q.length := by
  have h1 := h2.1
  rw [hf.1 21 (by decide), h.1] at h1
  exact ((nI_eq (by have := h.2.1; omega) (by have := h2.2.1; omega)).mp h1).symm
/-- what is known of an open block -/
def sFi (T : List (Nat × List Nat × List Nat)) (f : sFr) (u : xk_St) : Prop := sBt T f.1.1 f.2.2.1 u ∧ u.2.2.1 7 f.1.1 = nI (sh_op f.2.1) ∧ f.2.1 < 10 ∧ u.2.2.2 2 f.1.1 = lN (sb_lab T f).length
theorem sFi_fr {I J A C : List Nat} {f : sFr} (h : sFi T f v) (hf : yf_fr I J A C v w) (hd : (yf_no [7, 8] A && yf_no [2] C) = true) : sFi T f w := by
  have hd := Bool.and_eq_true_iff.mp hd
  refine ⟨⟨?_, h.1.2⟩, ?_, h.2.2.1, ?_⟩
  · rw [hf.2.2.1 8 (yf_nok hd.1 (by simp))]; exact h.1.1
  · rw [hf.2.2.1 7 (yf_nok hd.1 (by simp))]; exact h.2.1
  · rw [hf.2.2.2 2 (yf_nok hd.2 (by simp))]; exact h.2.2.2
/-- the block that a number tells -/
theorem sH_get {d : Nat} {f : sFr} (h : sH T Q u) (hd : Q[d]? = some f) : u.2.2.1 34 (Q.length - 1 - d) = nI f.1.1 ∧ sFi T f u := by
  obtain ⟨b, hb⟩ := sq_Aget h.2.2.2.2.2.2.1 hd
  obtain ⟨k1, k2, k3⟩ := sq_okget h.2.2.2.2.2.2.2 hd
  exact ⟨hb.1, ⟨hb.2.2.2.2.1, hb.2.2.2.2.2.2, k1, k2⟩, hb.2.2.2.2.2.1, k3, hb.2.2.2.1⟩
theorem sb_labV {f : sFr} (he : yCe T u) (hf : sFi T f u) : (sb_lab T f).length ≤ 16 ∧ ∀ (i : Nat) d, (sb_lab T f)[i]? = some d → yvw T.length d ∧ yvs T.length d ∧ 0 < d := by
  unfold sb_lab
  split
  · exact sb_parV (yCe_g he) he.2.1 hf.1.2.2.1
  · exact sb_resV (yCe_g he) he.2.1 hf.1.2.2.1 hf.1.2.2.2
theorem hc_wc {f : sFr} (hf : sFi T f u) : fm_Checker_wayCount (nI f.1.1) u = some (nI (sb_lab T f).length, u) := by
  unfold fm_Checker_wayCount
  rw [ix8192 hf.1.2.1, nI_clamp (by have := hf.1.2.1; omega), hf.2.2.2, lN_i]
def sJ (T : List (Nat × List Nat × List Nat)) (u : xk_St) (Q' : List sFr) (_ : Unit) (v : xk_St) : Prop := sH T Q' v ∧ yf_fr [19] [] [33] [] u v ∧ ¬ Q' = []
/-- the first m of what a way takes are taken off -/
theorem hc_popWay {f : sFr} {m : Nat} (hfu : 200 ≤ fu) (he : yCe T u) (hf : sFi T f u) (hm : m ≤ (sb_lab T f).length) (h : sH T Q u) (hQ : ¬ Q = []) : HC (fm_Checker_popWay fu (nI f.1.1) (nI m) u) (sq_takes (yl_f T) ((sb_lab T f).take m).reverse Q) (HJ (sJ T u)) := by
  unfold fm_Checker_popWay
  simp only [xs_let]
  rw [Int32.sub_eq_add_neg]
  have hl := sb_labV he hf
  refine HC_mono (hc_takesL (u := u) (L := sb_lab T f) (F := fun n b v => jb_Checker_popWay_4 fu n (nI f.1.1) b v) (E := fun v => some (.inl (), v)) (fun i d hd => (hl.2 i d hd).1) he (fun n v _ => ?_) (fun n k d v hv hd => ?_) m fu Q u hm (by omega) yf_refl h hQ) fun Q' _ hJ => ?_
  · show jb_Checker_popWay_4 fu (n + 1) (nI f.1.1) (nI 0 + (-1)) v = _
    unfold jb_Checker_popWay_4
    simp only [xs_let]
    rw [if_pos nI_neg1]
  · have hkl := yl_lt hd
    show jb_Checker_popWay_4 fu (n + 1) (nI f.1.1) (nI k) v = _
    conv => lhs; unfold jb_Checker_popWay_4
    simp only [xs_let]
    have hfv := sFi_fr hf hv (by decide)
    rw [if_neg (nI_pos (by omega)), hb_way (yCe_fr he hv (by decide)) hfv.1 hfv.2.1 hfv.2.2.1 hd, ys_seq]
  · obtain ⟨w, e1, e2, e3, e4⟩ := hJ
    exact ⟨(), w, e1, e2, e3, e4⟩
theorem hc_pushWay {f : sFr} {m : Nat} (hfu : 200 ≤ fu) (he : yCe T u) (hf : sFi T f u) (hm : m ≤ (sb_lab T f).length) (h : sH T Q u) (hQ : ¬ Q = []) : HC (fm_Checker_pushWay fu (nI f.1.1) (nI m) u) (sq_pushes ((sb_lab T f).take m) Q) (HJ (sJ T u)) := by
  unfold fm_Checker_pushWay
  have hl := sb_labV he hf
  have hlen : ((sb_lab T f).take m).length = m := by rw [List.length_take]; omega
  have hget : ∀ (k : Nat) d, ((sb_lab T f).take m)[k]? = some d → (sb_lab T f)[k]? = some d := fun k d hd => by
    have := yl_lt hd
    rw [hlen] at this
    rw [List.getElem?_take, if_pos this] at hd
    exact hd
  have := hc_pushesL (u := u) (L := (sb_lab T f).take m) (F := fun n b v => jb_Checker_pushWay_2 fu n (nI f.1.1) (nI m) b v) (E := fun v => some (.inl (), v)) (fun i d hd => (hl.2 i d (hget i d hd)).2.1) (fun n v _ => ?_) (fun n k d v hv hd => ?_) m 0 fu Q u (by omega) (by omega) yf_refl h hQ
  · rw [List.drop_zero] at this
    refine HC_mono this fun Q' _ hJ => ?_
    obtain ⟨w, e1, e2, e3, e4⟩ := hJ
    exact ⟨(), w, e1, e2, e3, e4⟩
  · show jb_Checker_pushWay_2 fu (n + 1) (nI f.1.1) (nI m) (nI ((sb_lab T f).take m).length) v = _
    rw [hlen]
    unfold jb_Checker_pushWay_2
    simp only [xs_let]
    rw [if_pos (Int32.le_refl _)]
  · have hkl := yl_lt hd
    rw [hlen] at hkl
    show jb_Checker_pushWay_2 fu (n + 1) (nI f.1.1) (nI m) (nI k) v = _
    conv => lhs; unfold jb_Checker_pushWay_2
    simp only [xs_let]
    have hfv := sFi_fr hf hv (by decide)
    rw [if_neg (nI_ge hkl (by omega)), hb_way (yCe_fr he hv (by decide)) hfv.1 hfv.2.1 hfv.2.2.1 (hget k d hd), ys_seq, nI_1]
theorem hc_pushPar {e : Nat} {t : Option Nat ⊕ Int64} (hfu : 200 ≤ fu) (he : yCe T u) (hb : sBt T e t u) (h : sH T Q u) (hQ : ¬ Q = []) : HC (fm_Checker_pushParameters fu (nI e) (nI (sb_par T t).length) u) (sq_pushes (sb_par T t) Q) (HJ (sJ T u)) := by
  unfold fm_Checker_pushParameters
  have hl := sb_parV (yCe_g he) he.2.1 hb.2.2.1
  have := hc_pushesL (u := u) (L := sb_par T t) (F := fun n b v => jb_Checker_pushParameters_2 fu n (nI e) (nI (sb_par T t).length) b v) (E := fun v => some (.inl (), v)) (fun i d hd => (hl.2 i d hd).2.1) (fun n v _ => ?_) (fun n k d v hv hd => ?_) (sb_par T t).length 0 fu Q u (by omega) (by omega) yf_refl h hQ
  · rw [List.drop_zero] at this
    refine HC_mono this fun Q' _ hJ => ?_
    obtain ⟨w, e1, e2, e3, e4⟩ := hJ
    exact ⟨(), w, e1, e2, e3, e4⟩
  · show jb_Checker_pushParameters_2 fu (n + 1) (nI e) (nI (sb_par T t).length) (nI (sb_par T t).length) v = _
    unfold jb_Checker_pushParameters_2
    simp only [xs_let]
    rw [if_pos (Int32.le_refl _)]
  · have hkl := yl_lt hd
    show jb_Checker_pushParameters_2 fu (n + 1) (nI e) (nI (sb_par T t).length) (nI k) v = _
    conv => lhs; unfold jb_Checker_pushParameters_2
    simp only [xs_let]
    rw [if_neg (nI_ge hkl (by omega)), hb_par (yCe_fr he hv (by decide)) (sBt_fr hb hv (by decide)) hd, ys_seq, nI_1]
/-- the end of a block: its results, and nothing else -/
noncomputable def sq_over (T : List (Nat × List Nat × List Nat)) (Q : List sFr) : Option (List sFr) := match Q with
  | [] => none
  | f :: r => (sq_takes (yl_f T) (sb_res T f.2.2.1).reverse (f :: r)).bind fun Q' => xs_if (sq_h Q' = sq_h Q'.tail) (some Q')
theorem hc_over {f : sFr} {r : List sFr} (hfu : 200 ≤ fu) (he : yCe T u) (h : sH T (f :: r) u) : HC (fm_Checker_popResults fu (nI f.1.1) u) (sq_over T (f :: r)) (HJ fun Q' x v => sJ T u Q' x v ∧ sq_h Q' = sq_h Q'.tail) := by
  obtain ⟨-, hfi⟩ := sH_get (d := 0) h rfl
  have hb := hfi.1
  have hl := sb_resV (yCe_g he) he.2.1 hb.2.2.1 hb.2.2.2
  unfold fm_Checker_popResults
  rw [hb_rc he hb, ys_seq]
  simp only [xs_let]
  rw [Int32.sub_eq_add_neg]
  show HC _ ((sq_takes (yl_f T) (sb_res T f.2.2.1).reverse (f :: r)).bind fun Q' => xs_if (sq_h Q' = sq_h Q'.tail) (some Q')) _
  have := hc_takesL (u := u) (L := sb_res T f.2.2.1) (F := fun n b v => jb_Checker_popResults_8 fu n (nI f.1.1) b v) (E := fun v => if v.1 19 = v.1 20 then jb_Checker_popResults_44 fu 1 v else jb_Checker_popResults_44 fu 0 v) (fun i d hd => (hl.2 i d hd).1) he (fun n v _ => ?_) (fun n k d v hv hd => ?_) (sb_res T f.2.2.1).length fu (f :: r) u (Nat.le_refl _) (by omega) yf_refl h (by simp)
  · rw [List.take_length] at this
    refine HC_bind this fun Q' e1 hJ => ?_
    obtain ⟨w, e2, e3, e4, e5⟩ := hJ
    rw [e2]
    unfold jb_Checker_popResults_44
    rw [e3.2.2.1, e3.2.2.2.2.1]
    have hc : nI (sq_h Q') = nI (sq_h Q'.tail) ↔ sq_h Q' = sq_h Q'.tail := by
      refine nI_eq (by have := e3.2.2.2.1; omega) ?_
      cases Q' with
      | nil => exact absurd rfl e5
      | cons x y =>
        have h1 := e3.2.2.2.1
        have : sq_h (x :: y) = x.2.2.2.2.length + sq_h y := rfl
        show sq_h y < 2 ^ 31
        omega
    by_cases z : sq_h Q' = sq_h Q'.tail
    · rw [if_pos (hc.mpr z), xs_ifp z]
      exact HC_ok ⟨(), w, rfl, ⟨e3, e4, e5⟩, z⟩
    · rw [if_neg (fun y => z (hc.mp y)), xs_ifn z]
      exact HC_no
  · show jb_Checker_popResults_8 fu (n + 1) (nI f.1.1) (nI 0 + (-1)) v = _
    unfold jb_Checker_popResults_8
    simp only [xs_let]
    rw [if_pos nI_neg1]
  · have hkl := yl_lt hd
    show jb_Checker_popResults_8 fu (n + 1) (nI f.1.1) (nI k) v = _
    conv => lhs; unfold jb_Checker_popResults_8
    simp only [xs_let]
    rw [if_neg (nI_pos (by omega)), hb_res (yCe_fr he hv (by decide)) (sBt_fr hb hv (by decide)) hd, ys_seq]
/-- the rest of a block can't be come to -/
theorem hc_lose (h : sH T Q u) (hQ : ¬ Q = []) : ∃ v, fm_Checker_lose u = some ((), v) ∧ sH T (sq_lose Q) v ∧ yf_fr [19] [] [35] [] u v := by
  obtain ⟨h1, h2, h3, h4, h5, h6, h7, h8⟩ := h
  cases Q with
  | nil => exact absurd rfl hQ
  | cons f r =>
    have hlen : (f :: r).length = r.length + 1 := List.length_cons
    have hsum : sq_h (f :: r) = f.2.2.2.2.length + sq_h r := rfl
    unfold fm_Checker_lose
    simp only [xs_let]
    have e21 : (xs_I u 19 (u.1 20)).1 21 = nI (r.length + 1) := by rw [← hlen]; exact h1
    rw [e21, nI_pred, if_neg (nI_in (N := 100) (by omega) (by decide)), nI_clamp (by omega), nb_z.2]
    have hfr : yf_fr [19] [] [35] [] u (xs_A (xs_I u 19 (u.1 20)) 35 r.length 1) := yf_A (yf_I yf_refl (by decide)) (by decide)
    refine ⟨_, rfl, ⟨h1, h2, ?_, ?_, h5, fun i c hc => ?_, ⟨?_, ?_⟩, ⟨fun i c hc => by simp at hc, h8.2.1, h8.2.2⟩⟩, hfr⟩
    · show u.1 20 = nI (0 + sq_h r)
      rw [Nat.zero_add]; exact h5
    · show 0 + sq_h r ≤ 100
      omega
    · refine h6 i c ?_
      have hc : (sq_f r ++ ([] : List Nat).reverse)[i]? = some c := hc
      rw [List.reverse_nil, List.append_nil] at hc
      show (sq_f r ++ f.2.2.2.2.reverse)[i]? = some c
      rw [List.getElem?_append_left (yl_lt hc)]; exact hc
    · obtain ⟨p1, p2, p3, p4, p5, p6, p7⟩ := h7.1
      refine ⟨p1, ?_, p3, p4, p5, p6, p7⟩
      show upd (u.2.2.1 35) r.length 1 r.length = _
      rw [ya_t]; rfl
    · refine sq_Am h7.2 fun j f b hj hp => ?_
      obtain ⟨p1, p2, p3, p4, p5, p6, p7⟩ := hp
      refine ⟨p1, ?_, p3, p4, p5, p6, p7⟩
      show upd (u.2.2.1 35) r.length 1 j = _
      rw [ya_j (by omega)]; exact p2
/-- the block that a number tells, by the class -/
theorem hc_blockAt {d : Nat} (h : sH T Q u) : HC (fm_Checker_blockAt (nI (yn_c d)) u) Q[d]? (HJ fun f b v => b = nI f.1.1 ∧ v = u ∧ sFi T f u) := by
  have n1 : fm_Checker_need 1 u = some (.inl (), u) := if_neg (by decide)
  have n0 : fm_Checker_need 0 u = some (.inr 0, u) := if_pos rfl
  have hl := h.2.1
  unfold fm_Checker_blockAt jb_Checker_blockAt_13
  rw [n0, n1, ys_tryl, ys_tryr, h.1]
  have hc : nI Q.length ≤ nI (yn_c d) ↔ Q.length ≤ d := by
    rw [nI_leI (by omega) (by have := yn_cb d; omega)]
    unfold yn_c; split <;> omega
  by_cases z : Q.length ≤ d
  · rw [if_pos (hc.mpr z), List.getElem?_eq_none z]
    exact HC_no
  · rw [if_neg (fun y => z (hc.mp y)), yn_cs (by omega)]
    obtain ⟨f, hf⟩ := yl_get (l := Q) (k := d) (by omega)
    have e0 : nI Q.length - 1 - nI d = nI (Q.length - 1 - d) := by
      have h1 : nI Q.length - 1 = nI (Q.length - 1) := by
        have := nI_subb (a := Q.length - 1) (b := 1)
        rw [show Q.length - 1 + 1 = Q.length by omega] at this
        exact this
      rw [h1]
      have := nI_subb (a := Q.length - 1 - d) (b := d)
      rw [show Q.length - 1 - d + d = Q.length - 1 by omega] at this
      exact this
    rw [e0, if_neg (nI_in (N := 100) (by omega) (by decide)), nI_clamp (by omega), hf]
    obtain ⟨k1, k2⟩ := sH_get h hf
    exact HC_ok ⟨_, u, rfl, k1, rfl, k2⟩
end
