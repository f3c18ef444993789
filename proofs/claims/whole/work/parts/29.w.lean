section
variable {α β γ δ σ τ : Type} {u v w u0 : xk_St} {g : Nat → Nat} {T : List (Nat × List Nat × List Nat)} {F : List Nat} {G : List (Nat × Nat × Nat × Int64)} {L : List Nat} {n fu tc mc : Nat} {Q Q' : List sFr} {s : Option (List sFr)}
/-- the innermost block goes; what lay in it lies in the one around it -/
theorem mS_close {f a : sFr} {r : List sFr} (h : mS T (f :: a :: r) v) (hf : yf_fr [22] [] [20] [] v w) (h22 : w.1 22 = nI (r.length + 1)) : mS T (sf_s a (f.2.2.2.2 ++ a.2.2.2.2) :: r) w := by
  obtain ⟨h1, h2, h3, h4, h5, h6, h7⟩ := h
  have e1 : sq_h (sf_s a (f.2.2.2.2 ++ a.2.2.2.2) :: r) = sq_h (f :: a :: r) := by
    show (f.2.2.2.2 ++ a.2.2.2.2).length + sq_h r = f.2.2.2.2.length + (a.2.2.2.2.length + sq_h r)
    rw [List.length_append]; omega
  have e2 : sq_f (sf_s a (f.2.2.2.2 ++ a.2.2.2.2) :: r) = sq_f (f :: a :: r) := by
    show sq_f r ++ (f.2.2.2.2 ++ a.2.2.2.2).reverse = (sq_f r ++ a.2.2.2.2.reverse) ++ f.2.2.2.2.reverse
    rw [List.reverse_append, List.append_assoc]
  have hl : (f :: a :: r).length = r.length + 2 := rfl
  refine ⟨h22, by show r.length + 1 ≤ 100; omega, ?_, by rw [e1]; exact h4, fun i c hc => ?_, ⟨?_, ?_⟩, ⟨fun i c hc => ?_, h7.2.2.2.1, h7.2.2.2.2⟩⟩
  · rw [hf.1 21 (by decide), h3, e1]
  · rw [hf.2.2.1 22 (by decide)]
    rw [e2] at hc
    exact h5 i c hc
  · exact mS_P_fr (f := a) h6.2.1 hf (by decide)
  · exact sq_Am h6.2.2 fun j f b _ hp => mS_P_fr hp hf (by decide)
  · have hc : (f.2.2.2.2 ++ a.2.2.2.2)[i]? = some c := hc
    have hm := List.mem_of_getElem? hc
    rcases List.mem_append.mp hm with hm | hm
    · obtain ⟨j, hj⟩ := List.getElem?_of_mem hm
      exact h7.1 j c hj
    · obtain ⟨j, hj⟩ := List.getElem?_of_mem hm
      exact h7.2.2.1 j c hj
/-- what comes behind an end: the results, if a block is left -/
def sq_out (T : List (Nat × List Nat × List Nat)) (t : Option Nat ⊕ Int64) (r : List sFr) : Option (List sFr) := match r with
  | [] => some []
  | _ :: _ => sq_pushes (sb_res T t) r
theorem ml_118 {f : sFr} {r : List sFr} (hfu : 200 ≤ fu) (hE : yTM T v) (hS : mS T (f :: r) v) (h7 : (v.1 7 = 0 ∧ f.2.2.2.2 = []) ∨ v.1 7 = 1) : MC (jb_Model_checkEnd_118 fu (nI r.length) (yb_m f.2.2.1) v) fun _ w => yf_fr [7, 21, 22] [] [20, 22] [] v w ∧ w.2.2.1 20 = upd (v.2.2.1 20) f.1.2 (v.1 4) ∧ ((v.1 7 = 0 ∧ ((∃ Q', sq_out T f.2.2.1 r = some Q' ∧ w.1 7 = 0 ∧ mS T Q' w) ∨ (sq_out T f.2.2.1 r = none ∧ w.1 7 = 1))) ∨ (v.1 7 = 1 ∧ w.1 7 = 1)) := by
  have hS0 := hS
  obtain ⟨h1, h2, h3, h4, h5, h6, h8⟩ := hS
  have hl : (f :: r).length = r.length + 1 := List.length_cons
  unfold jb_Model_checkEnd_118
  simp only [xs_let]
  rw [ix101 (by omega), nI_clamp (by omega), h6.1.1, if_neg (nI_in (N := 8192) h6.1.2.1 (by decide)), nI_clamp (by have := h6.1.2.1; omega)]
  have e22 : (xs_A v 20 f.1.2 (v.1 4)).1 22 = nI (r.length + 1) := by rw [← hl]; exact h1
  rw [e22, nI_pred]
  generalize hx : xs_I (xs_A v 20 f.1.2 (v.1 4)) 22 (nI r.length) = x
  have hfx : yf_fr [22] [] [20] [] v x := by rw [← hx]; exact yf_I (yf_A yf_refl (by decide)) (by decide)
  have x22 : x.1 22 = nI r.length := by rw [← hx]; rfl
  have x20 : x.2.2.1 20 = upd (v.2.2.1 20) f.1.2 (v.1 4) := by rw [← hx]; rfl
  have x7 : x.1 7 = v.1 7 := hfx.1 7 (by decide)
  rw [x22]
  cases r with
  | nil =>
    rw [if_pos (show nI ([] : List sFr).length ≤ 0 by decide)]
    refine MC_ok ⟨yf_mono hfx (by decide), x20, ?_⟩
    rcases h7 with ⟨a, b⟩ | a
    · refine Or.inl ⟨a, Or.inl ⟨[], rfl, x7.trans a, ?_⟩⟩
      refine ⟨x22, by decide, ?_, by decide, fun i c hc => by simp [sq_f] at hc, trivial, trivial⟩
      rw [hfx.1 21 (by decide), h3]
      show nI (f.2.2.2.2.length + 0) = nI 0
      rw [b]; rfl
    · exact Or.inr ⟨a, x7.trans a⟩
  | cons a r =>
    have hl2 : (a :: r).length = r.length + 1 := List.length_cons
    rw [if_neg (show ¬ nI (a :: r).length ≤ 0 from fun y => by have := (nI_leI (b := 0) (by omega) (by decide)).mp y; omega)]
    have hxS := mS_close hS0 hfx x22
    have hxE := yTM_fr hE hfx (by decide)
    have hne : ¬ sf_s a (f.2.2.2.2 ++ a.2.2.2.2) :: r = [] := fun y => by cases y
    rcases h7 with ⟨z, b⟩ | z
    · have hR : mR T (some (a :: r)) x := by
        rw [b] at hxS
        exact ⟨a :: r, hxS, (fun y => by cases y), Or.inl ⟨rfl, x7.trans z⟩⟩
      refine MC_seq (ml_bring (b := true) hfu (mK_0 hxE hR) h8.2.1.1 h8.2.1.2.1) fun _ y hy => MC_ok ?_
      refine ⟨yf_trans (yf_mono hfx (by decide)) (yf_mono hy.2.2 (by decide)), by rw [hy.2.2.2.2.1 20 (by decide), x20], Or.inl ⟨z, ?_⟩⟩
      obtain ⟨-, ⟨Qy, hSy, hQy, hsy⟩, -⟩ := hy
      rcases hsy with ⟨p, q⟩ | ⟨p, q⟩
      · exact Or.inl ⟨Qy, p, q, hSy⟩
      · exact Or.inr ⟨p, q⟩
    · have hR : mR T none x := ⟨_, hxS, hne, Or.inr ⟨rfl, x7.trans z⟩⟩
      refine MC_seq (ml_bring (b := true) hfu (mK_0 hxE hR) h8.2.1.1 h8.2.1.2.1) fun _ y hy => MC_ok ?_
      refine ⟨yf_trans (yf_mono hfx (by decide)) (yf_mono hy.2.2 (by decide)), by rw [hy.2.2.2.2.1 20 (by decide), x20], Or.inr ⟨z, ?_⟩⟩
      obtain ⟨-, ⟨Qy, hSy, hQy, hsy⟩, -⟩ := hy
      rcases hsy with ⟨p, q⟩ | ⟨p, q⟩
      · cases p
      · exact q
/-- parameters and results, one by one -/
theorem ml_62 {t : Option Nat ⊕ Int64} {b1 : Int32} (hk : sb_ok T t) (hr : sb_rd t) (hl : (sb_par T t).length ≤ (sb_res T t).length) : ∀ (j k n : Nat) (v : xk_St), k + j = (sb_par T t).length → j < n → yTM T v → v.1 7 = 0 → ∃ w, jb_Model_checkEnd_62 fu n b1 (yb_m t) (nI k) v = jb_Model_checkEnd_118 fu b1 (yb_m t) w ∧ yf_fr [7] [] [] [] v w ∧ ((w.1 7 = 0 ∧ ∀ (i : Nat) a b, k ≤ i → (sb_par T t)[i]? = some a → (sb_res T t)[i]? = some b → yfit (yl_f T) a b ∧ yfit (yl_f T) b a) ∨ (w.1 7 = 1 ∧ ¬ ∀ (i : Nat) a b, k ≤ i → (sb_par T t)[i]? = some a → (sb_res T t)[i]? = some b → yfit (yl_f T) a b ∧ yfit (yl_f T) b a)) := by
  intro j
  induction j with
  | zero =>
    intro k n v hkj hn hE h7
    obtain ⟨n, rfl⟩ : ∃ m, n = m + 1 := ⟨n - 1, by omega⟩
    have hlb := (sb_prV (b := false) hE hk hr).1
    have hlb : (sb_par T t).length ≤ 16 := hlb
    unfold jb_Model_checkEnd_62
    simp only [xs_let]
    rw [show fm_Model_countOf (yb_m t) (0 : Int32) v = _ from mb_count (b := false) hE hk hr, ys_seq]
    have e0 : (sb_pr T false t).length = (sb_par T t).length := rfl
    rw [e0, if_pos (nI_le (by omega) (by omega))]
    refine ⟨v, rfl, yf_refl, Or.inl ⟨h7, fun i a b hi ha => ?_⟩⟩
    have := yl_lt ha
    omega
  | succ j ih =>
    intro k n v hkj hn hE h7
    obtain ⟨n, rfl⟩ : ∃ m, n = m + 1 := ⟨n - 1, by omega⟩
    have hlb := (sb_prV (b := false) hE hk hr).1
    have hlb : (sb_par T t).length ≤ 16 := hlb
    obtain ⟨a, ha⟩ := yl_get (l := sb_par T t) (k := k) (by omega)
    obtain ⟨b, hb⟩ := yl_get (l := sb_res T t) (k := k) (by omega)
    obtain ⟨va, -, a0⟩ := (sb_prV (b := false) hE hk hr).2 k a ha
    obtain ⟨vb, -, b0⟩ := (sb_prV (b := true) hE hk hr).2 k b hb
    obtain ⟨s1, s2⟩ := mm_same (v := v) hE ⟨va, a0⟩ ⟨vb, b0⟩
    unfold jb_Model_checkEnd_62
    simp only [xs_let]
    rw [show fm_Model_countOf (yb_m t) (0 : Int32) v = _ from mb_count (b := false) hE hk hr, ys_seq]
    have e0 : (sb_pr T false t).length = (sb_par T t).length := rfl
    rw [e0, if_neg (fun y => by have := (nI_leI (by omega) (by omega)).mp y; omega), if_pos h7, show fm_Model_typeOf (yb_m t) (0 : Int32) (nI k) v = _ from mb_type (b := false) hE hk hr ha, ys_seq, show fm_Model_typeOf (yb_m t) (1 : Int32) (nI k) v = _ from mb_type (b := true) hE hk hr hb, ys_seq]
    have hfI : ∀ x, yf_fr [7] [] [] [] v (xs_I v 7 x) := fun x => yf_I yf_refl (by decide)
    have hEI : ∀ x, yTM T (xs_I v 7 x) := fun x => yTM_fr hE (hfI x) (by decide)
    unfold jb_Model_checkEnd_109
    simp only [xs_let]
    by_cases z : yfit (yl_f T) a b ∧ yfit (yl_f T) b a
    · rw [s1 z, ys_seq, if_neg (show ¬ (1 : Int32) = 0 by decide), if_pos (Or.inl trivial), nI_1]
      obtain ⟨w, e, hf, hw⟩ := ih (k + 1) n (xs_I v 7 0) (by omega) (by omega) (hEI 0) rfl
      refine ⟨w, e, yf_trans (hfI 0) hf, ?_⟩
      rcases hw with ⟨w7, hw⟩ | ⟨w7, hw⟩
      · refine Or.inl ⟨w7, fun i x y hi hx hy => ?_⟩
        by_cases zi : i = k
        · subst zi
          rw [ha] at hx; cases hx
          rw [hb] at hy; cases hy
          exact z
        · exact hw i x y (by omega) hx hy
      · exact Or.inr ⟨w7, fun y => hw fun i a b hi => y i a b (by omega)⟩
    · rw [s2 z, ys_seq, if_pos rfl, if_pos (Or.inr trivial), nI_1]
      obtain ⟨n, rfl⟩ : ∃ m, n = m + 1 := ⟨n - 1, by omega⟩
      unfold jb_Model_checkEnd_62
      simp only [xs_let]
      rw [show fm_Model_countOf (yb_m t) (0 : Int32) (xs_I v 7 1) = _ from mb_count (b := false) (hEI 1) hk hr, ys_seq, e0]
      refine ⟨xs_I v 7 1, ?_, hfI 1, Or.inr ⟨rfl, fun y => z (y k a b (Nat.le_refl _) ha hb)⟩⟩
      by_cases zz : nI (sb_par T t).length ≤ nI (k + 1)
      · rw [if_pos zz]
      · rw [if_neg zz, if_neg (show ¬ (xs_I v 7 1).1 7 = 0 from fun y => absurd (show (1 : Int32) = 0 from y) (by decide))]
end
