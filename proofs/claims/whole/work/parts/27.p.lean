section
variable {α β γ δ : Type} {B : Nat → Int32} {u v w : xk_St} {L lim p q fu D len : Nat} {e : Int32} {T : List (Nat × List Nat × List Nat)} {S : Nat → Option (Nat × Nat)} {g : Nat → Nat}
theorem nb_z : vp_nar .boolean (0 : Int32) = 0 ∧ vp_nar .boolean (1 : Int32) = 1 := by decide
/-- a global as it must be -/
def yv_glo (T : List (Nat × List Nat × List Nat)) (a : Nat × Nat × Nat × Int64) : Prop := yv_in T T.length a.1 ∧ yv_in T T.length a.2.2.1 ∧ yfit (yl_f T) a.2.2.1 a.1
theorem yv_inw {x : Nat} (hx : x < 150) (h : yv_in T T.length x) : yvw T.length x := ⟨hx, h.imp id fun z => z.1⟩
theorem mk_const {a : Nat × Int64} (hfu : 20 ≤ fu) (h : ym_st B lim p u) (h6 : u.1 6 = 0) (e : yp_const B lim p = .inl (a, q)) : ∃ v, fm_Model_constant fu u = some (nI a.1, v) ∧ ym_st B lim q v ∧ v.1 6 = 0 ∧ v.2.1 0 = a.2 ∧ yf_fr [4, 6] [0] [] [] u v := by
  obtain ⟨b, v, e1, e2, e3, e4⟩ := zC_g (zJ_fr (mm_const hfu h h6) yf_fm_Model_constant) e
  exact ⟨v, by rw [e1, e4.1.1], e2, e3, e4.1.2, e4.2⟩
theorem yp_const_b {a : Nat × Int64} (h : yp_const B lim p = .inl (a, q)) : a.1 < 150 := by
  obtain ⟨b, r, h1, h⟩ := yp_thenI h
  by_cases z1 : b = 65
  · rw [if_pos z1] at h
    obtain ⟨x, r2, h2, h⟩ := yp_thenI h
    obtain ⟨y, r3, h3, h⟩ := yp_thenI h
    cases h
    show 1 < 150
    omega
  rw [if_neg z1] at h
  by_cases z2 : b = 66
  · rw [if_pos z2] at h
    obtain ⟨x, r2, h2, h⟩ := yp_thenI h
    obtain ⟨y, r3, h3, h⟩ := yp_thenI h
    cases h
    show 2 < 150
    omega
  rw [if_neg z2] at h
  by_cases z3 : b = 208
  · rw [if_pos z3] at h
    obtain ⟨x, r2, h2, h⟩ := yp_thenI h
    obtain ⟨y, r3, h3, h⟩ := yp_thenI h
    have := yp_Tb h2
    cases h
    show 16 + 2 * x + 1 < 150
    omega
  rw [if_neg z3] at h
  cases h
theorem yl_fle (hah : ∀ j, yk_ah T j) (i : Nat) : yl_f T i ≤ i := (yl_fP (k := i) (fun j _ => hah j)).1
/-- the types as the reference has them, all of them -/
def yTM (T : List (Nat × List Nat × List Nat)) (u : xk_St) : Prop := u.1 12 = nI T.length ∧ yV1 T ∧ yTm T T.length u ∧ ∀ i, i < T.length → u.2.2.1 8 i = nI (yl_f T i)
theorem yTM_fr {I J A C : List Nat} (h : yTM T v) (hf : yf_fr I J A C v w) (hd : (yf_no [12] I && yf_no [4, 5, 6, 7, 8] A) = true) : yTM T w := by
  have hd := Bool.and_eq_true_iff.mp hd
  obtain ⟨h1, h2, h3, h4⟩ := h
  refine ⟨(hf.1 12 (yf_nok hd.1 (by simp))).trans h1, h2, fun j d hj hd2 => ?_, fun i hi => ?_⟩
  · have := h3 j d hj hd2
    exact ⟨yTyS this.1 (hf.2.2.1 4 (yf_nok hd.2 (by simp))) (hf.2.2.1 5 (yf_nok hd.2 (by simp))) (hf.2.2.1 6 (yf_nok hd.2 (by simp))) (hf.2.2.1 7 (yf_nok hd.2 (by simp))), this.2⟩
  · rw [hf.2.2.1 8 (yf_nok hd.2 (by simp))]; exact h4 i hi
theorem yTM_ah (h : yTM T u) (k : Nat) : yk_ah T k := by
  by_cases hk : k < T.length
  · exact yk_ah_of (fun d hd => (h.2.2.1 k d hk hd).2.1) (h.2.1.2 k)
  · intro c hc
    have := yl_lt hc
    omega
theorem yTM_K (h : yTM T u) : yKm T T.length u := fun k c hk hc => ⟨(h.2.2.1 k c hk hc).1.1, (h.2.2.1 k c hk hc).2.1⟩
/-- the globals are taken down -/
theorem mm_globals {l : List (Nat × Nat × Nat × Int64)} (hfu : 100 ≤ fu) (hX : yX B (yp_glo B) (S 6) l) (hB : yB B len S u) (h7 : u.1 7 = 0) (hT : yTM T u) :
    ∃ v, fm_Model_globalRow fu u = some ((), v) ∧ v.1 6 = 0 ∧ yf_fr [4, 5, 6, 7, 18] [0] [14, 15] [2] u v ∧ (((l.length ≤ 64 ∧ ∀ (k : Nat) a, l[k]? = some a → yv_glo T a) ∧ v.1 7 = 0 ∧ v.1 18 = nI l.length ∧ ∀ (k : Nat) a, l[k]? = some a → v.2.2.1 14 k = nI a.1 ∧ v.2.2.1 15 k = nI a.2.1 ∧ v.2.2.2 2 k = if a.1 < 16 then a.2.2.2 else 0) ∨ (¬ (l.length ≤ 64 ∧ ∀ (k : Nat) a, l[k]? = some a → yv_glo T a) ∧ v.1 7 = 1)) := by
  have h64T := hT.2.1.1
  unfold fm_Model_globalRow
  simp only [xs_let]
  have hB2 : yB B len S (xs_I u 18 0) := hB
  obtain ⟨w, q, e, r1, r2, r3, r4, r5⟩ := mm_rowOf (fu := fu) (id := 6) hfu (by decide) (fun _ => yp_glo_eats) (fun _ _ _ h => yl_glo h) hX hB2 h7
  have r1' : fm_Model_rowOf fu 6 (xs_I u 18 0) = _ := r1
  rw [r1', ys_seq]
  have wfr : yf_fr [4, 5, 6, 7, 18] [0] [14, 15] [2] u w := yf_trans (yf_I yf_refl (by decide)) (yf_mono r2 (by decide))
  have w6 : w.1 6 = 0 := (r2.1 6 (by decide)).trans hB.2.2.2.2.2
  by_cases hl64 : l.length ≤ 64
  · rw [if_pos hl64] at r3 ⊢
    have hstp : ∀ m k v, jb_Model_globalRow_14 fu (m + 1) (nI l.length) (nI k) v = if nI l.length ≤ nI k then some ((), v) else if v.1 7 = 0 then (xs_seq (fm_Model_valueType fu v) fun a4 u5 => if nI k < 0 ∨ 64 ≤ (nI k).toNatClampNeg then none else xs_seq (fm_Model_flag (xs_A u5 14 (nI k).toNatClampNeg a4)) fun a7 u8 => if a7 = (1 : Int32) then (jb_Model_globalRow_56 fu (jb_Model_globalRow_14 fu m) (nI l.length) (nI k) a4 (1 : Int32) (nI k) u8) else (jb_Model_globalRow_56 fu (jb_Model_globalRow_14 fu m) (nI l.length) (nI k) a4 (0 : Int32) (nI k) u8)) else some ((), v) := fun m k v => by
      conv => lhs; unfold jb_Model_globalRow_14
      simp only [xs_let]
    have := mt_loop (B := B) (len := len) (l := l) (it := yp_glo B len) (fun k a => yv_glo T a) (fun k v => yf_fr [4, 5, 6, 7, 18] [0] [14, 15] [2] u v ∧ v.1 18 = nI k ∧ ∀ (i : Nat) a, i < k → l[i]? = some a → v.2.2.1 14 i = nI a.1 ∧ v.2.2.1 15 i = nI a.2.1 ∧ v.2.2.2 2 i = if a.1 < 16 then a.2.2.2 else 0) (fun v => yf_fr [4, 5, 6, 7, 18] [0] [14, 15] [2] u v) (fun m k v => jb_Model_globalRow_14 fu m (nI l.length) (nI k) v) (fun v => some ((), v)) (fun m v => ?_) (fun m k v hk hv => ?_) (fun m k a p q v hl hp hv v6 v7 hI => ?_) l.length 0 q e fu w (by omega) (by omega) (by rw [List.drop_zero]; exact r5) r4 w6 r3 ⟨wfr, (r2.1 18 (by decide)).trans rfl, fun j d hj => by omega⟩
    · obtain ⟨v, g1, g2, g3⟩ := this
      have g1' : jb_Model_globalRow_14 fu fu (nI l.length) 0 w = _ := g1
      refine ⟨v, g1', g2, ?_⟩
      rcases g3 with ⟨c1, c2, c3, -⟩ | ⟨⟨j, x, c1, c1'⟩, c2, c3⟩
      · exact ⟨c3.1, Or.inl ⟨⟨hl64, fun k c hc => c1 k c (Nat.zero_le _) hc⟩, c2, c3.2.1, fun k t ht => c3.2.2 k t (yl_lt ht) ht⟩⟩
      · exact ⟨c3, Or.inr ⟨fun z => c1' (z.2 j x c1), c2⟩⟩
    · show jb_Model_globalRow_14 fu (m + 1) (nI l.length) (nI l.length) v = _
      rw [hstp, if_pos (Int32.le_refl _)]
    · show jb_Model_globalRow_14 fu (m + 1) (nI l.length) (nI k) v = _
      rw [hstp, if_neg (show ¬ v.1 7 = 0 by rw [hv]; decide)]
      split <;> rfl
    · have hk := yl_lt hl
      obtain ⟨i1, i2, i3⟩ := hI
      obtain ⟨t, q1, p1, hp⟩ := yp_thenI hp
      obtain ⟨f, q2, p2, hp⟩ := yp_thenI hp
      obtain ⟨ab, q3, p3, hp⟩ := yp_thenI hp
      cases hp
      obtain ⟨mt, val⟩ := ab
      have t1 := yp_Vb p1
      have t2 := yp_V_eats p1
      have f1 := yp_fb p2
      have c1 := yp_const_b p3
      have c1 : mt < 150 := c1
      show ∃ v', jb_Model_globalRow_14 fu (m + 1) (nI l.length) (nI k) v = _ ∧ _
      have hst1 : ym_st B len q1 (xs_A (xs_I v 4 (nI q1)) 14 k (nI t)) := ⟨hv.1, rfl, hv.2.2.1, by omega, hv.2.2.2.2⟩
      rw [hstp, if_neg (nI_ge (by omega) (by omega)), if_pos v7, mk_V (by omega) hv v6 p1, ys_seq, ie64 (by omega), nI_clamp (by omega), mk_flag hst1 v6 p2, ys_seq]
      have hif : (if nI f = (1 : Int32) then (jb_Model_globalRow_56 fu (jb_Model_globalRow_14 fu m) (nI l.length) (nI k) (nI t) (1 : Int32) (nI k) (xs_I (xs_A (xs_I v 4 (nI q1)) 14 k (nI t)) 4 (nI q2))) else (jb_Model_globalRow_56 fu (jb_Model_globalRow_14 fu m) (nI l.length) (nI k) (nI t) (0 : Int32) (nI k) (xs_I (xs_A (xs_I v 4 (nI q1)) 14 k (nI t)) 4 (nI q2)))) = jb_Model_globalRow_56 fu (jb_Model_globalRow_14 fu m) (nI l.length) (nI k) (nI t) (nI f) (nI k) (xs_I (xs_A (xs_I v 4 (nI q1)) 14 k (nI t)) 4 (nI q2)) := by
        have : f = 0 ∨ f = 1 := by omega
        rcases this with z | z <;> rw [z] <;> rfl
      rw [hif]
      unfold jb_Model_globalRow_56
      simp only [xs_let]
      have hnf : vp_nar .boolean (nI f) = nI f := by
        have : f = 0 ∨ f = 1 := by omega
        rcases this with z | z <;> rw [z]
        · exact nb_z.1
        · exact nb_z.2
      rw [ie64 (by omega), nI_clamp (by omega), hnf]
      have hst2 : ym_st B len q2 (xs_A (xs_I (xs_A (xs_I v 4 (nI q1)) 14 k (nI t)) 4 (nI q2)) 15 k (nI f)) := ⟨hv.1, rfl, hv.2.2.1, by omega, hv.2.2.2.2⟩
      obtain ⟨y, d1, d2, d3, d4, d5⟩ := mk_const (fu := fu) (by omega) hst2 v6 p3
      rw [d1, ys_seq]
      have yfr : yf_fr [4, 5, 6, 7, 18] [0] [14, 15] [2] u y := yf_trans (yf_A (yf_I (yf_A (yf_I i1 (by decide)) (by decide)) (by decide)) (by decide)) (yf_mono d5 (by decide))
      have yT : yTM T y := yTM_fr hT yfr (by decide)
      have y12 := yT.1
      rw [y12]
      obtain ⟨a1, a2⟩ := mm_there (T := T) (x := t) (n := T.length) (u := y) (by omega) h64T (Nat.le_refl _) (yTM_K yT)
      obtain ⟨b1, b2⟩ := mm_there (T := T) (x := mt) (n := T.length) (u := y) c1 h64T (Nat.le_refl _) (yTM_K yT)
      have h104 : ∀ s : Int32, (s = 0 ∨ s = 1) → jb_Model_globalRow_104 fu (jb_Model_globalRow_14 fu m) (nI l.length) (nI k) (nI t) s y = jb_Model_globalRow_14 fu m (nI l.length) (nI (k + 1)) (xs_I (xs_B (xs_I y 7 s) 2 k (if t < 16 then val else 0)) 18 (nI (k + 1))) := fun s hs => by
        unfold jb_Model_globalRow_104 jb_Model_globalRow_127
        simp only [xs_let]
        have y18 : ∀ z : Int64, (xs_B (xs_I y 7 s) 2 k z).1 18 = nI k := fun z => by
          show y.1 18 = _
          rw [d5.1 18 (by decide)]; exact i2
        rw [if_pos hs, mm_isRef (by omega), ys_seq, ie64 (by omega), ie64 (by omega), nI_clamp (by omega), y18, y18, nI_1]
        by_cases z : t < 16
        · rw [if_pos z, if_pos rfl, if_pos z]
          have : (xs_I y 7 s).2.1 0 = val := d4
          rw [this]
        · rw [if_neg z, if_neg (by decide), if_neg z]
      have zfr : ∀ s : Int32, yf_fr [4, 5, 6, 7, 18] [0] [14, 15] [2] u (xs_I (xs_B (xs_I y 7 s) 2 k (if t < 16 then val else 0)) 18 (nI (k + 1))) := fun s => yf_I (yf_B (yf_I yfr (by decide)) (by decide)) (by decide)
      have hbad : ¬ yv_glo T (t, f, mt, val) → ∃ v', jb_Model_globalRow_104 fu (jb_Model_globalRow_14 fu m) (nI l.length) (nI k) (nI t) 1 y = jb_Model_globalRow_14 fu m (nI l.length) (nI (k + 1)) v' ∧ v'.1 6 = 0 ∧ ((yv_glo T (t, f, mt, val) ∧ v'.1 7 = 0 ∧ ym_st B len q v' ∧ (yf_fr [4, 5, 6, 7, 18] [0] [14, 15] [2] u v' ∧ v'.1 18 = nI (k + 1) ∧ ∀ (i : Nat) a, i < k + 1 → l[i]? = some a → v'.2.2.1 14 i = nI a.1 ∧ v'.2.2.1 15 i = nI a.2.1 ∧ v'.2.2.2 2 i = if a.1 < 16 then a.2.2.2 else 0)) ∨ (¬ yv_glo T (t, f, mt, val) ∧ v'.1 7 = 1 ∧ yf_fr [4, 5, 6, 7, 18] [0] [14, 15] [2] u v')) := fun hn => by
        rw [h104 1 (Or.inr rfl)]
        exact ⟨_, rfl, d3, Or.inr ⟨hn, rfl, zfr 1⟩⟩
      unfold jb_Model_globalRow_99
      by_cases z1 : yv_in T T.length t
      · rw [a1 z1, ys_seq, if_neg (show ¬ (1 : Int32) = 0 by decide), y12]
        by_cases z2 : yv_in T T.length mt
        · rw [b1 z2, ys_seq, if_neg (show ¬ (1 : Int32) = 0 by decide)]
          obtain ⟨m1, m2⟩ := mm_fits (T := T) (u := y) (t := mt) (x := t) (g := yl_f T) h64T (Or.inr (yv_inw c1 z2)) (yv_inw (by omega) z1) yT.2.2.2 (yl_fle (yTM_ah yT))
          by_cases z3 : yfit (yl_f T) mt t
          · rw [m1 z3, ys_seq, if_neg (show ¬ (1 : Int32) = 0 by decide), h104 0 (Or.inl rfl)]
            refine ⟨_, rfl, d3, Or.inl ⟨⟨z1, z2, z3⟩, rfl, ⟨d2.1, d2.2.1, d2.2.2.1, d2.2.2.2⟩, zfr 0, ys_Ig, fun i b hi hb => ?_⟩⟩
            have y14 : y.2.2.1 14 = upd (v.2.2.1 14) k (nI t) := d5.2.2.1 14 (by decide)
            have y15 : y.2.2.1 15 = upd (v.2.2.1 15) k (nI f) := d5.2.2.1 15 (by decide)
            have yb2 : y.2.2.2 2 = v.2.2.2 2 := d5.2.2.2 2 (by decide)
            show y.2.2.1 14 i = _ ∧ y.2.2.1 15 i = _ ∧ vp_updL (y.2.2.2 2) k (if t < 16 then val else 0) i = _
            rw [y14, y15, yb2]
            by_cases z : i = k
            · subst z
              rw [hl] at hb; cases hb
              exact ⟨ya_t, ya_t, yb_t⟩
            · rw [ya_j z, ya_j z, yb_j z]; exact i3 i b (by omega) hb
          · rw [m2 z3, ys_seq, if_pos rfl]
            exact hbad fun h => z3 h.2.2
        · rw [b2 z2, ys_seq, if_pos rfl]
          exact hbad fun h => z2 h.2.1
      · rw [a2 z1, ys_seq, if_pos rfl]
        exact hbad fun h => z1 h.1
  · rw [if_neg hl64] at r3 ⊢
    refine ⟨w, ?_, w6, wfr, Or.inr ⟨fun z => hl64 z.1, r3⟩⟩
    obtain ⟨f, hf⟩ : ∃ m, fu = m + 1 := ⟨fu - 1, by omega⟩
    conv => lhs; rw [hf]
    unfold jb_Model_globalRow_14
    simp only [xs_let]
    rw [if_pos (Int32.le_refl _)]
/-- the class's check of globals -/
theorem hh_globals {l : List (Nat × Nat × Nat × Int64)} (hfu : 100 ≤ fu) (hl64 : l.length ≤ 64) (h13 : u.1 13 = nI l.length) (hG : yi_rows yi_glo l u) (hb : ∀ (k : Nat) a, l[k]? = some a → a.1 < 150 ∧ a.2.2.1 < 150) (hT : yTh T u) (hV : yV1 T) (hA : ∀ i, i < T.length → u.2.2.1 5 i = nI (yl_f T i)) :
    ((∀ (k : Nat) a, l[k]? = some a → yv_glo T a) → fm_Checker_checkGlobals fu u = some (.inl (), u)) ∧ (¬ (∀ (k : Nat) a, l[k]? = some a → yv_glo T a) → fm_Checker_checkGlobals fu u = some (.inr 0, u)) := by
  have h64T := hT.2.1
  have n1 : fm_Checker_need 1 u = some (.inl (), u) := if_neg (by decide)
  have n0 : fm_Checker_need 0 u = some (.inr 0, u) := if_pos rfl
  have := yb_all (N := l.length) (fun k => ∀ a, l[k]? = some a → yv_glo T a) (fun n k => jb_Checker_checkGlobals_10 fu n (nI k) u) (some (.inl (), u)) (some (.inr 0, u)) (fun n => ?_) (fun n k hk => ?_) l.length 0 fu (by omega) (by omega)
  · refine ⟨fun h => this.1 fun k _ _ c hc => h k c hc, fun h => this.2 (Classical.byContradiction fun hno => h fun k c hc => Classical.byContradiction fun hn => hno ⟨k, Nat.zero_le _, yl_lt hc, fun z => hn (z c hc)⟩)⟩
  · show jb_Checker_checkGlobals_10 fu (n + 1) (nI l.length) u = _
    unfold jb_Checker_checkGlobals_10
    simp only [xs_let]
    rw [h13, if_pos (Int32.le_refl _)]
  · obtain ⟨a, ha⟩ := yl_get (l := l) (k := k) hk
    obtain ⟨g1, g2, g3, -⟩ := hG k a (by omega) ha
    obtain ⟨b1, b2⟩ := hb k a ha
    obtain ⟨k1, k2⟩ := hh_knows (x := a.1) b1 hT
    obtain ⟨k3, k4⟩ := hh_knows (x := a.2.2.1) b2 hT
    have hstep : jb_Checker_checkGlobals_10 fu (n + 1) (nI k) u = (xs_seq (fm_Types_knows (nI (yv_h a.1)) u) fun a1 u2 => if a1 = (0 : Int32) then (jb_Checker_checkGlobals_54 fu (jb_Checker_checkGlobals_10 fu n) (nI k) u2) else ((if nI k < 0 ∨ 65 ≤ (nI k).toNatClampNeg then none else xs_seq (fm_Types_knows (u2.2.2.1 23 (nI k).toNatClampNeg) u2) fun a8 u9 => if a8 = (0 : Int32) then (jb_Checker_checkGlobals_54 fu (jb_Checker_checkGlobals_10 fu n) (nI k) u9) else (jb_Checker_checkGlobals_55 fu (jb_Checker_checkGlobals_10 fu n) (nI k) (1 : Int32) u9)))) := by
      conv => lhs; unfold jb_Checker_checkGlobals_10
      simp only [xs_let]
      rw [h13, if_neg (nI_ge (by omega) (by omega)), hh_ix (by omega), nI_clamp (by omega), g1]
    have h54 : jb_Checker_checkGlobals_54 fu (jb_Checker_checkGlobals_10 fu n) (nI k) u = some (.inr 0, u) := by
      unfold jb_Checker_checkGlobals_54 jb_Checker_checkGlobals_55
      rw [n0, ys_tryr]
    show ((∀ b, l[k]? = some b → yv_glo T b) → jb_Checker_checkGlobals_10 fu (n + 1) (nI k) u = jb_Checker_checkGlobals_10 fu n (nI (k + 1)) u) ∧ (¬ (∀ b, l[k]? = some b → yv_glo T b) → jb_Checker_checkGlobals_10 fu (n + 1) (nI k) u = some (.inr 0, u))
    rw [hstep]
    have hP : (∀ b, l[k]? = some b → yv_glo T b) ↔ yv_glo T a := ⟨fun h => h a ha, fun h b hb => by rw [ha] at hb; cases hb; exact h⟩
    rw [hP]
    by_cases z1 : yv_in T T.length a.1
    · rw [k1 z1, ys_seq, if_neg (show ¬ (1 : Int32) = 0 by decide), hh_ix (by omega), nI_clamp (by omega), g3]
      by_cases z2 : yv_in T T.length a.2.2.1
      · rw [k3 z2, ys_seq, if_neg (show ¬ (1 : Int32) = 0 by decide)]
        obtain ⟨m1, m2⟩ := hh_fits (T := T) (u := u) (t := a.2.2.1) (x := a.1) (g := yl_f T) h64T (Or.inr (yv_inw b2 z2)) (yv_inw b1 z1) hA (yl_fle (yV_ah hT hV))
        rw [yu_h b1, yu_h b2] at m1 m2
        unfold jb_Checker_checkGlobals_55
        simp only [xs_let]
        rw [n1, ys_tryl, hh_ix (by omega), hh_ix (by omega), nI_clamp (by omega), g1, g3]
        by_cases z3 : yfit (yl_f T) a.2.2.1 a.1
        · rw [m1 z3, ys_seq, n1, ys_tryl, nI_1]
          exact ⟨fun _ => rfl, fun h => absurd ⟨z1, z2, z3⟩ h⟩
        · rw [m2 z3, ys_seq, n0, ys_tryr]
          exact ⟨fun h => absurd h.2.2 z3, fun _ => rfl⟩
      · rw [k4 z2, ys_seq, if_pos rfl, h54]
        exact ⟨fun h => absurd h.2.1 z2, fun _ => rfl⟩
    · rw [k2 z1, ys_seq, if_pos rfl, h54]
      exact ⟨fun h => absurd h.1 z1, fun _ => rfl⟩
end
