section
variable {α β γ δ σ τ : Type} {B : Nat → Int32} {u v w x u0 : xk_St} {g : Nat → Nat} {T : List (Nat × List Nat × List Nat)} {F : List Nat} {G : List (Nat × Nat × Nat × Int64)} {L : List Nat} {n fu tc mc lim p q len f : Nat} {Q Q' : List sFr} {s : Option (List sFr)}
theorem nI_200 {t i : Nat} : (200 : Int32) * nI t + nI i = nI (200 * t + i) := by
  rw [← nI_add, show nI (200 * t) = 200 * nI t from by show Int32.ofNat _ = Int32.ofNat 200 * Int32.ofNat t; rw [Int32.ofNat_mul]]
/-- the locals of function f as far as they have been taken down -/
def mLs (T : List (Nat × List Nat × List Nat)) (L : List Nat) (f : Nat) (v : xk_St) : Prop := L.length ≤ 200 ∧ ∀ (k : Nat) c, L[k]? = some c → v.2.2.1 13 (200 * f + k) = nI c ∧ yvw T.length c ∧ yvs T.length c
/-- only what is f's has changed -/
def mLf (f : Nat) (v w : xk_St) : Prop := yf_fr [4, 6, 7] [] [12, 13] [] v w ∧ (∀ k, k < 200 * f ∨ 200 * f + 200 ≤ k → w.2.2.1 13 k = v.2.2.1 13 k) ∧ ∀ k, ¬ k = f → w.2.2.1 12 k = v.2.2.1 12 k
theorem mLf_r : mLf f v v := ⟨yf_refl, fun _ _ => rfl, fun _ _ => rfl⟩
theorem mLf_t (h : mLf f u v) (h2 : mLf f v w) : mLf f u w := ⟨yf_trans h.1 h2.1, fun k hk => (h2.2.1 k hk).trans (h.2.1 k hk), fun k hk => (h2.2.2 k hk).trans (h.2.2 k hk)⟩
theorem mLf_I {i : Nat} {a : Int32} (h : mLf f u v) (hi : i = 4 ∨ i = 6 ∨ i = 7) : mLf f u (xs_I v i a) := by
  refine ⟨?_, h.2.1, h.2.2⟩
  rcases hi with rfl | rfl | rfl
  · exact yf_I h.1 (by decide)
  · exact yf_I h.1 (by decide)
  · exact yf_I h.1 (by decide)
/-- a group's types -/
theorem ml_138 {k60 : Int32 → Int32 → Int64 → xk_St → Option (Unit × xk_St)} {m c b : Nat} {b4 : Int64} (hf : f < 64) (hm : b + m ≤ 200) : ∀ (j k n : Nat) (v : xk_St), k + j = m → j < n → v.1 7 = 0 → ∃ w, jb_Model_localRow_138 fu k60 n (nI f) (nI b) b4 (lN m) (nI c) (nI k) v = k60 (nI f) (nI (b + m)) (b4 - 1) w ∧ yf_fr [] [] [13] [] v w ∧ (∀ i, k ≤ i → i < m → w.2.2.1 13 (200 * f + b + i) = nI c) ∧ ∀ i, i < 200 * f + b + k ∨ 200 * f + b + m ≤ i → w.2.2.1 13 i = v.2.2.1 13 i := by
  intro j
  induction j with
  | zero =>
    intro k n v hk hn h7
    obtain ⟨n, rfl⟩ : ∃ m, n = m + 1 := ⟨n - 1, by omega⟩
    unfold jb_Model_localRow_138 jb_Model_localRow_177 jb_Model_localRow_192
    simp only [xs_let]
    rw [nI_toL (by omega), if_pos ((pk_lLE (by omega) (by omega)).mpr (by omega)), if_pos h7, sb_nLi (by omega), nI_add]
    exact ⟨v, rfl, yf_refl, fun i h1 h2 => by omega, fun i _ => rfl⟩
  | succ j ih =>
    intro k n v hk hn h7
    obtain ⟨n, rfl⟩ : ∃ m, n = m + 1 := ⟨n - 1, by omega⟩
    unfold jb_Model_localRow_138
    simp only [xs_let]
    rw [nI_toL (by omega), if_neg (fun y => by have := (pk_lLE (by omega) (by omega)).mp y; omega), if_pos h7, nI_200, nI_add, if_neg (nI_in (N := 12800) (by omega) (by decide)), nI_clamp (by omega), nI_1]
    obtain ⟨w, w1, w2, w3, w4⟩ := ih (k + 1) n (xs_A v 13 (200 * f + b + k) (nI c)) (by omega) (by omega) h7
    refine ⟨w, w1, yf_trans (yf_A yf_refl (by decide)) w2, fun i h1 h2 => ?_, fun i hi => ?_⟩
    · by_cases zi : i = k
      · subst zi
        rw [w4 _ (by omega)]
        show upd (v.2.2.1 13) (200 * f + b + i) (nI c) (200 * f + b + i) = _
        exact ya_t
      · exact w3 i (by omega) h2
    · rw [w4 i (by omega)]
      show upd (v.2.2.1 13) (200 * f + b + k) (nI c) i = _
      exact ya_j (by omega)
theorem ml_138n {k60 : Int32 → Int32 → Int64 → xk_St → Option (Unit × xk_St)} {b3 : Int32} {b4 b6 : Int64} {b8 : Int32} (h7 : v.1 7 = 1) : jb_Model_localRow_138 fu k60 (n + 1) (nI f) b3 b4 b6 b8 0 v = k60 (nI f) (b3 + 0) (b4 - 1) v := by
  unfold jb_Model_localRow_138 jb_Model_localRow_177 jb_Model_localRow_192
  have h0 : ¬ v.1 7 = 0 := by rw [h7]; decide
  simp only [xs_let, if_neg h0]
  split
  · rfl
  · rfl
/-- groups of locals, by the reference -/
theorem ml_60 (hfu : 8400 ≤ fu) (hf : f < 64) : ∀ (ls : List (Nat × Nat)) (p q n b : Nat) (v : xk_St) (s : Option (List Nat)), yp_rep (yp_loc B lim) ls.length p = .inl (ls, q) → ls.length < n → ym_st B lim p v → v.1 6 = 0 → yTM T v → b ≤ 200 → ((∃ L, s = some L ∧ v.1 7 = 0 ∧ mLs T L f v ∧ b = L.length) ∨ (s = none ∧ v.1 7 = 1)) →
    ∃ w b', jb_Model_localRow_60 fu n (nI f) (nI b) (lN ls.length) v = some ((), w) ∧ ym_st B lim q w ∧ w.1 6 = 0 ∧ mLf f v w ∧ w.2.2.1 12 f = nI b' ∧ ((∃ L, s.bind (sq_dcl T ls) = some L ∧ w.1 7 = 0 ∧ mLs T L f w ∧ b' = L.length) ∨ (s.bind (sq_dcl T ls) = none ∧ w.1 7 = 1)) := by
  intro ls
  induction ls with
  | nil =>
    intro p q n b v s hp hn hst h6 hE hb hs
    obtain ⟨n, rfl⟩ : ∃ m, n = m + 1 := ⟨n - 1, by omega⟩
    have hp : (Sum.inl ([], p) : (List (Nat × Nat) × Nat) ⊕ Nat) = .inl ([], q) := hp
    cases hp
    unfold jb_Model_localRow_60
    simp only [xs_let]
    rw [if_pos (show lN ([] : List (Nat × Nat)).length ≤ 0 by decide), if_neg (nI_in (N := 64) hf (by decide)), nI_clamp (by omega)]
    refine ⟨_, b, rfl, hst, h6, ⟨yf_A yf_refl (by decide), fun k _ => rfl, fun k hk => ?_⟩, ya_t, ?_⟩
    · show upd (v.2.2.1 12) f (nI b) k = _
      exact ya_j hk
    · rcases hs with ⟨L, rfl, a, b, c⟩ | ⟨rfl, a⟩
      · exact Or.inl ⟨L, rfl, a, b, c⟩
      · exact Or.inr ⟨rfl, a⟩
  | cons c ls ih =>
    intro p q n b v s hp hn hst h6 hE hb hs
    obtain ⟨n, rfl⟩ : ∃ m, n = m + 1 := ⟨n - 1, by omega⟩
    have hlen : (c :: ls).length = ls.length + 1 := List.length_cons
    rw [hlen] at hp hn ⊢
    obtain ⟨c', q1, h1, hp⟩ := yp_thenI (show yp_then (yp_loc B lim p) (fun a q => yp_then (yp_rep (yp_loc B lim) ls.length q) fun l r => .inl (a :: l, r)) = _ from hp)
    obtain ⟨ls', q2, h2, hp⟩ := yp_thenI hp
    cases hp
    obtain ⟨m, r1, k1, h1⟩ := yp_thenI h1
    obtain ⟨d, r2, k2, h1⟩ := yp_thenI h1
    cases h1
    have h64 := hE.2.1.1
    have hlb : ls.length < 2 ^ 32 := by
      have := yp_rep_eats (lim := lim) (it := yp_loc B lim) yp_loc_eats h2
      have h8 := hst.2.2.2.2
      have hr : q1 ≤ lim := (yp_V_eats k2).2
      have := this.2.1 hr
      omega
    have hm32 := (yp_Nb k1)
    have hdV := yp_Vb k2
    have hdT := yp_Vc k2
    obtain ⟨n', hn'⟩ : ∃ m, fu = m + 1 := ⟨fu - 1, by omega⟩
    have hN := mk_N (fu := fu) (by omega) hst h6 k1
    have hst1 : ym_st B lim r1 (xs_I v 4 (nI r1)) := ym_mv hst hm32.2.2
    have hV := mk_V (fu := fu) (by omega) hst1 h6 k2
    have hst2 : ym_st B lim q1 (xs_I (xs_I v 4 (nI r1)) 4 (nI q1)) := ym_mv hst1 (yp_V_eats k2).2
    generalize hy : xs_I (xs_I v 4 (nI r1)) 4 (nI q1) = y at hV hst2
    have hfy : yf_fr [4] [] [] [] v y := by rw [← hy]; exact yf_I (yf_I yf_refl (by decide)) (by decide)
    have hLy : mLf f v y := by rw [← hy]; exact mLf_I (mLf_I mLf_r (Or.inl rfl)) (Or.inl rfl)
    have y6 : y.1 6 = 0 := (hfy.1 6 (by decide)).trans h6
    have y7 : y.1 7 = v.1 7 := hfy.1 7 (by decide)
    have yE := yTM_fr hE hfy (by decide)
    -- what the group must keep
    have hsp : ∀ L, sq_dcl T ((m, d) :: ls) L = xs_if (yv_in T T.length d ∧ ydf d ∧ m ≤ 200 - L.length) (sq_dcl T ls (L ++ List.replicate m d)) := fun L => rfl
    have bad : ∀ (z : xk_St), yf_fr [] [] [] [] y z → z.1 = y.1 → (∀ L, s = some L → ¬ (yv_in T T.length d ∧ ydf d ∧ m ≤ 200 - L.length)) → ∃ w b', jb_Model_localRow_127 fu (jb_Model_localRow_60 fu n) (nI f) (nI b) (lN (ls.length + 1)) (lN m) (nI d) y = some ((), w) ∧ ym_st B lim q w ∧ w.1 6 = 0 ∧ mLf f v w ∧ w.2.2.1 12 f = nI b' ∧ ((∃ L, s.bind (sq_dcl T ((m, d) :: ls)) = some L ∧ w.1 7 = 0 ∧ mLs T L f w ∧ b' = L.length) ∨ (s.bind (sq_dcl T ((m, d) :: ls)) = none ∧ w.1 7 = 1)) := fun z _ _ hno => by
      have hno2 : s.bind (sq_dcl T ((m, d) :: ls)) = none := by
        cases s with
        | none => rfl
        | some L =>
          show sq_dcl T ((m, d) :: ls) L = none
          rw [hsp, xs_ifn (hno L rfl)]
      unfold jb_Model_localRow_127 jb_Model_localRow_132
      simp only [xs_let]
      rw [if_pos (Or.inr trivial)]
      rw [show jb_Model_localRow_138 fu (jb_Model_localRow_60 fu n) fu = jb_Model_localRow_138 fu (jb_Model_localRow_60 fu n) (n' + 1) by rw [← hn'], ml_138n (v := xs_I y 7 1) rfl, Int32.add_zero, show lN (ls.length + 1) - 1 = lN ls.length from lN_sub (a := ls.length + 1) (b := 1) (by omega)]
      obtain ⟨w, b', w1, w2, w3, w4, w5, w6⟩ := ih q1 q n b (xs_I y 7 1) none h2 (by omega) hst2 y6 (yTM_fr yE (yf_I (I := [7]) (J := []) (A := []) (B := []) yf_refl (by decide)) (by decide)) hb (Or.inr ⟨rfl, rfl⟩)
      refine ⟨w, b', w1, w2, w3, mLf_t (mLf_I hLy (Or.inr (Or.inr rfl))) w4, w5, ?_⟩
      rw [hno2]
      rcases w6 with ⟨L, a, _⟩ | ⟨-, a⟩
      · cases a
      · exact Or.inr ⟨rfl, a⟩
    unfold jb_Model_localRow_60
    simp only [xs_let]
    rw [if_neg (show ¬ lN (ls.length + 1) ≤ 0 from fun y => by have := (pk_lLE (b := 0) (by omega) (by decide)).mp y; omega), hN, ys_seq, hV, ys_seq]
    rcases hs with ⟨L, rfl, v7, hL, hbL⟩ | ⟨rfl, v7⟩
    · rw [if_pos (y7.trans v7), yE.1]
      obtain ⟨t1, t2⟩ := mm_there (T := T) (u := y) (x := d) (n := T.length) (by omega) h64 (Nat.le_refl _) (yTM_K yE)
      have e115 : yv_in T T.length d ∧ ydf d → ∃ w b', jb_Model_localRow_115 fu (jb_Model_localRow_60 fu n) (nI f) (nI b) (lN (ls.length + 1)) (lN m) (nI d) y = some ((), w) ∧ ym_st B lim q w ∧ w.1 6 = 0 ∧ mLf f v w ∧ w.2.2.1 12 f = nI b' ∧ ((∃ L', (some L).bind (sq_dcl T ((m, d) :: ls)) = some L' ∧ w.1 7 = 0 ∧ mLs T L' f w ∧ b' = L'.length) ∨ ((some L).bind (sq_dcl T ((m, d) :: ls)) = none ∧ w.1 7 = 1)) := fun hd2 => by
        unfold jb_Model_localRow_115
        have e200 : (200 : Int32) - nI b = nI (200 - b) := by
          have := nI_subb (a := 200 - b) (b := b)
          rw [show 200 - b + b = 200 by omega] at this
          exact this
        rw [e200, nI_toL (by omega)]
        have cle : lN m ≤ lN (200 - b) ↔ m ≤ 200 - b := pk_lLE (by omega) (by omega)
        by_cases zm : m ≤ 200 - b
        · rw [if_pos (cle.mpr zm)]
          unfold jb_Model_localRow_132
          simp only [xs_let]
          rw [if_pos (Or.inl trivial)]
          obtain ⟨w, w1, w2, w3, w4⟩ := ml_138 (fu := fu) (k60 := jb_Model_localRow_60 fu n) (m := m) (c := d) (b := b) (b4 := lN (ls.length + 1)) hf (by omega) m 0 fu (xs_I y 7 0) (by omega) (by omega) rfl
          have w1 : jb_Model_localRow_138 fu (jb_Model_localRow_60 fu n) fu (nI f) (nI b) (lN (ls.length + 1)) (lN m) (nI d) 0 (xs_I y 7 0) = _ := w1
          rw [w1, show lN (ls.length + 1) - 1 = lN ls.length from lN_sub (a := ls.length + 1) (b := 1) (by omega)]
          have hyw : yf_fr [7] [] [13] [] y w := yf_trans (yf_I yf_refl (by decide)) (yf_mono w2 (by decide))
          have hin := yv_inS hdV.1 (by omega) hdT hd2.1
          have hLs : mLs T (L ++ List.replicate m d) f w := by
            refine ⟨by rw [List.length_append, List.length_replicate]; omega, fun k e he => ?_⟩
            have hk := yl_lt he
            rw [List.length_append, List.length_replicate] at hk
            by_cases zk : k < L.length
            · rw [List.getElem?_append_left zk] at he
              obtain ⟨a1, a2, a3⟩ := hL.2 k e he
              rw [w4 _ (by omega)]
              exact ⟨by rw [← a1]; show y.2.2.1 13 _ = _; rw [hfy.2.2.1 13 (by decide)], a2, a3⟩
            · rw [List.getElem?_append_right (by omega)] at he
              have : e = d := by
                have := List.mem_of_getElem? he
                exact List.eq_of_mem_replicate this
              subst this
              have := w3 (k - b) (by omega) (by omega)
              rw [show 200 * f + b + (k - b) = 200 * f + k by omega] at this
              exact ⟨this, hin.1, hin.2.1⟩
          have hLw : mLf f v w := by
            refine mLf_t hLy ⟨yf_mono hyw (by decide), fun k hk => ?_, fun k hk => by rw [hyw.2.2.1 12 (by decide)]⟩
            rw [w4 k (by omega)]; rfl
          have hstw : ym_st B lim q1 w := ⟨(hyw.2.2.1 1 (by decide)).trans hst2.1, (hyw.1 4 (by decide)).trans hst2.2.1, (hyw.1 5 (by decide)).trans hst2.2.2.1, hst2.2.2.2⟩
          obtain ⟨z, b', z1, z2, z3, z4, z5, z6⟩ := ih q1 q n (b + m) w (some (L ++ List.replicate m d)) h2 (by omega) hstw ((hyw.1 6 (by decide)).trans y6) (yTM_fr yE hyw (by decide)) (by omega) (Or.inl ⟨_, rfl, (w2.1 7 (by decide)), hLs, by rw [List.length_append, List.length_replicate]; omega⟩)
          refine ⟨z, b', z1, z2, z3, mLf_t hLw z4, z5, ?_⟩
          have es : (some L).bind (sq_dcl T ((m, d) :: ls)) = (some (L ++ List.replicate m d)).bind (sq_dcl T ls) := by
            show sq_dcl T ((m, d) :: ls) L = _
            rw [hsp, xs_ifp ⟨hd2.1, hd2.2, by omega⟩]; rfl
          rw [es]; exact z6
        · rw [if_neg (fun y => zm (cle.mp y))]
          exact bad y yf_refl rfl fun L' e => by cases e; exact fun t => zm (by rw [hbL]; exact t.2.2)
      by_cases zt : yv_in T T.length d
      · rw [t1 zt, ys_seq, if_neg (show ¬ (1 : Int32) = 0 by decide), mm_isR d (Or.inl (by omega)), ys_seq]
        by_cases z16 : d < 16
        · rw [if_pos z16, if_pos rfl]
          exact e115 ⟨zt, Or.inl z16⟩
        · rw [if_neg z16, if_neg (show ¬ (1 : Int32) = 0 by decide), (mm_tg d (by omega) (by omega)).2]
          have c0 : nI (d % 2) = (0 : Int32) ↔ d % 2 = 0 := nI_eq (b := 0) (by omega) (by decide)
          by_cases z2 : d % 2 = 0
          · rw [if_pos (c0.mpr z2)]
            exact bad y yf_refl rfl fun L' _ t => by have := t.2.1; unfold ydf at this; omega
          · rw [if_neg (fun y => z2 (c0.mp y))]
            exact e115 ⟨zt, Or.inr (by omega)⟩
      · rw [t2 zt, ys_seq, if_pos rfl]
        exact bad y yf_refl rfl fun L' _ t => zt t.1
    · rw [if_neg (by rw [y7, v7]; decide)]
      exact bad y yf_refl rfl fun L' e => by cases e
end
