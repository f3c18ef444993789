section
variable {α β γ δ σ τ : Type} {B : Nat → Int32} {u v w x u0 : xk_St} {g : Nat → Nat} {T : List (Nat × List Nat × List Nat)} {F : List Nat} {G : List (Nat × Nat × Nat × Int64)} {L : List Nat} {n fu tc mc lim p q len f : Nat} {Q Q' : List sFr} {s : Option (List sFr)}
/-- a function's parameters as values -/
theorem yTM_par {t i d : Nat} {c : Nat × List Nat × List Nat} (hE : yTM T v) (hc : T[t]? = some c) (h96 : c.1 = 96) (hd : c.2.1[i]? = some d) : yvw T.length d ∧ yvs T.length d := by
  have hv := hE.2.1.2 t c hc
  have hg := yTM_g hE t c hc
  obtain ⟨g1, g2, g3⟩ := hg.2.1 i d hd
  have hin := hv.2.2.1 i d hd
  have ht := yl_lt hc
  have h1 : yvw T.length d := ⟨by omega, by rcases hin with z | z; exact Or.inl z; exact Or.inr (by omega)⟩
  exact ⟨h1, yvs_of h1 (by omega)⟩
theorem ml_17 {t : Nat} {c : Nat × List Nat × List Nat} (hf : f < 64) (hc : T[t]? = some c) : ∀ (j k n : Nat) (v : xk_St), k + j = c.2.1.length → j < n → yTM T v → ∃ w, jb_Model_localRow_17 fu n (nI f) (nI t) (nI c.2.1.length) (nI k) v = (xs_seq (fm_Model_number fu w) fun a3 u4 => jb_Model_localRow_60 fu fu (nI f) (nI c.2.1.length) a3 u4) ∧ yf_fr [] [] [13] [] v w ∧ (∀ (i : Nat) d, k ≤ i → c.2.1[i]? = some d → w.2.2.1 13 (200 * f + i) = nI d) ∧ ∀ i, i < 200 * f + k ∨ 200 * f + c.2.1.length ≤ i → w.2.2.1 13 i = v.2.2.1 13 i := by
  intro j
  induction j with
  | zero =>
    intro k n v hk hn hE
    obtain ⟨n, rfl⟩ : ∃ m, n = m + 1 := ⟨n - 1, by omega⟩
    unfold jb_Model_localRow_17
    simp only [xs_let]
    rw [show c.2.1.length = k by omega, if_pos (Int32.le_refl _)]
    exact ⟨v, rfl, yf_refl, fun i d hi hd => by have := yl_lt hd; omega, fun _ _ => rfl⟩
  | succ j ih =>
    intro k n v hk hn hE
    obtain ⟨n, rfl⟩ : ∃ m, n = m + 1 := ⟨n - 1, by omega⟩
    obtain ⟨d, hd⟩ := yl_get (l := c.2.1) (k := k) (by omega)
    obtain ⟨p1, p2, p3⟩ := yTM_p hE hc hd
    have hl16 := (hE.2.1.2 t c hc).1
    unfold jb_Model_localRow_17
    simp only [xs_let]
    rw [if_neg (nI_ge (by omega) (by omega)), nI_32, if_neg (nI_in (N := 2048) (by omega) (by decide)), nI_clamp (by omega), nI_200, if_neg (nI_in (N := 12800) (by omega) (by decide)), nI_clamp (by omega), p1, nI_1]
    obtain ⟨w, w1, w2, w3, w4⟩ := ih (k + 1) n (xs_A v 13 (200 * f + k) (nI d)) (by omega) (by omega) (yTM_fr hE (yf_A (I := []) (J := []) (A := [13]) (B := []) yf_refl (by decide)) (by decide))
    refine ⟨w, w1, yf_trans (yf_A yf_refl (by decide)) w2, fun i e h1 he => ?_, fun i hi => ?_⟩
    · by_cases zi : i = k
      · subst zi
        rw [hd] at he; cases he
        rw [w4 _ (by omega)]
        show upd (v.2.2.1 13) (200 * f + i) (nI d) (200 * f + i) = _
        exact ya_t
      · exact w3 i e (by omega) he
    · rw [w4 i (by omega)]
      show upd (v.2.2.1 13) (200 * f + k) (nI d) i = _
      exact ya_j (by omega)
/-- the locals of a function, by the reference -/
theorem mc_local {t r : Nat} {c : Nat × List Nat × List Nat} {ls : List (Nat × Nat)} (hfu : 8400 ≤ fu) (hE : yTM T v) (hEn : mEn T F tc mc G v) (hF : F[f]? = some t) (hc : T[t]? = some c) (h96 : c.1 = 96) (hst : ym_st B lim p v) (h6 : v.1 6 = 0) (h7 : v.1 7 = 0) (h1 : yp_N B lim p = .inl (ls.length, r)) (h2 : yp_rep (yp_loc B lim) ls.length r = .inl (ls, q)) :
    ∃ w, fm_Model_localRow fu (nI f) v = some ((), w) ∧ ym_st B lim q w ∧ w.1 6 = 0 ∧ mLf f v w ∧ ((∃ L, sq_dcl T ls c.2.1 = some L ∧ w.1 7 = 0 ∧ mLo T L f w) ∨ (sq_dcl T ls c.2.1 = none ∧ w.1 7 = 1)) := by
  have hf64 : f < 64 := by have := yl_lt hF; have := hEn.2.1; omega
  have h64 := hE.2.1.1
  have ht64 : t < 64 := by have := yl_lt hc; omega
  obtain ⟨k1, k2⟩ := hEn.2.2.1 f t hF
  obtain ⟨a, ga, hv⟩ := hE.2.2.1 t c (yl_lt hc) hc
  have hl16 := hv.1
  unfold fm_Model_localRow
  simp only [xs_let]
  rw [if_neg (nI_in (N := 64) hf64 (by decide)), nI_clamp (by omega), k1, if_neg (nI_in (N := 64) ht64 (by decide)), nI_clamp (by omega), a.2.1]
  obtain ⟨x, e1, hx, x1, x2⟩ := ml_17 (fu := fu) hf64 hc c.2.1.length 0 fu v (by omega) (by omega) hE
  have e1 : jb_Model_localRow_17 fu fu (nI f) (nI t) (nI c.2.1.length) 0 v = _ := e1
  have hstx : ym_st B lim p x := ⟨(hx.2.2.1 1 (by decide)).trans hst.1, (hx.1 4 (by decide)).trans hst.2.1, (hx.1 5 (by decide)).trans hst.2.2.1, hst.2.2.2⟩
  have x6 : x.1 6 = 0 := (hx.1 6 (by decide)).trans h6
  have hN := mk_N (fu := fu) (by omega) hstx x6 h1
  have hr := yp_Nb h1
  rw [e1, hN, ys_seq]
  have hsty : ym_st B lim r (xs_I x 4 (nI r)) := ym_mv hstx hr.2.2
  have hxy : yf_fr [4] [] [13] [] v (xs_I x 4 (nI r)) := yf_I (yf_mono hx (by decide)) (by decide)
  have hlb : ls.length ≤ 8192 := by
    have := yp_rep_eats (lim := lim) (it := yp_loc B lim) yp_loc_eats h2
    have h8 := hst.2.2.2.2
    have := this.2.1 hr.2.2
    omega
  have hLs : mLs T c.2.1 f (xs_I x 4 (nI r)) := ⟨by omega, fun k d hd => ⟨x1 k d (Nat.zero_le _) hd, yTM_par hE hc h96 hd⟩⟩
  obtain ⟨w, b', w1, w2, w3, w4, w5, w6⟩ := ml_60 (T := T) (f := f) (B := B) (lim := lim) hfu hf64 ls r q fu c.2.1.length (xs_I x 4 (nI r)) (some c.2.1) h2 (by omega) hsty x6 (yTM_fr hE hxy (by decide)) (by omega) (Or.inl ⟨c.2.1, rfl, (hxy.1 7 (by decide)).trans h7, hLs, rfl⟩)
  have hLf : mLf f v (xs_I x 4 (nI r)) := ⟨yf_mono hxy (by decide), fun k hk => x2 k (by omega), fun k hk => by rw [hxy.2.2.1 12 (by decide)]⟩
  refine ⟨w, w1, w2, w3, mLf_t hLf w4, ?_⟩
  rcases w6 with ⟨L, l1, l2, l3, l4⟩ | ⟨l1, l2⟩
  · exact Or.inl ⟨L, l1, l2, by rw [w5, l4], l3.1, hf64, l3.2⟩
  · exact Or.inr ⟨l1, l2⟩
/-- a body as it was read -/
theorem yp_bodyI {D : Nat} {a : sBo} (h : yp_body D B len p = .inl (a, q)) : ∃ n q0 r1 r2, yp_N B len p = .inl (n, q0) ∧ q0 + n ≤ len ∧ yp_N B (q0 + n) q0 = .inl (a.2.1.length, r1) ∧ yp_rep (yp_loc B (q0 + n)) a.2.1.length r1 = .inl (a.2.1, r2) ∧ yp_code B (q0 + n) D [false] r2 = .inl (a.2.2, q0 + n) ∧ q = q0 + n ∧ a.1 = q0 + n ∧ p < q0 ∧ q0 < r1 ∧ r1 ≤ r2 ∧ r2 ≤ q0 + n := by
  unfold yp_body at h
  obtain ⟨n, q0, h1, h⟩ := yp_thenI h
  have b1 := yp_Nb h1
  by_cases z : n ≤ len - q0
  · rw [if_pos z] at h
    obtain ⟨m, r1, h2, h⟩ := yp_thenI h
    obtain ⟨ls, r2, h3, h⟩ := yp_thenI h
    obtain ⟨is, r3, h4, h⟩ := yp_thenI h
    by_cases zr : r3 = q0 + n
    · rw [if_pos zr] at h
      cases h
      have b2 := yp_Nb h2
      have b3 := yp_rep_eats (lim := q0 + n) (it := yp_loc B (q0 + n)) yp_loc_eats h3
      have hl := yp_repl h3
      refine ⟨n, q0, r1, r2, h1, by omega, ?_, ?_, by rw [← zr]; rw [zr] at h4; rw [zr]; exact h4, zr, rfl, b1.2.1, b2.2.1, b3.1, b3.2.1 b2.2.2⟩
      · show yp_N B (q0 + n) q0 = .inl (ls.length, r1)
        rw [hl]; exact h2
      · show yp_rep (yp_loc B (q0 + n)) ls.length r1 = .inl (ls, r2)
        rw [hl]; exact h3
    · rw [if_neg zr] at h; cases h
  · rw [if_neg z] at h; cases h
end
