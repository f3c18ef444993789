section
variable {α β γ δ σ τ : Type} {B : Nat → Int32} {u v w x u0 : xk_St} {g : Nat → Nat} {T : List (Nat × List Nat × List Nat)} {F : List Nat} {G : List (Nat × Nat × Nat × Int64)} {L : List Nat} {n fu tc mc lim p q len f D k : Nat} {Q Q' : List sFr} {z : Nat → Nat} {a : sBo}
/-- body k keeps what the document asks -/
def yv_bd (T : List (Nat × List Nat × List Nat)) (F : List Nat) (tc mc : Nat) (G : List (Nat × Nat × Nat × Int64)) (z : Nat → Nat) (k : Nat) (a : sBo) : Prop := ∃ t c L, F[k]? = some t ∧ T[t]? = some c ∧ sq_body T F tc mc G (z k) t c a = some L
/-- body k as the reference has it for the run -/
def mBd (D : Nat) (B : Nat → Int32) (T : List (Nat × List Nat × List Nat)) (F : List Nat) (tc mc : Nat) (G : List (Nat × Nat × Nat × Int64)) (z : Nat → Nat) (k : Nat) (a : sBo) (w : xk_St) : Prop := ∃ t c L r2, F[k]? = some t ∧ T[t]? = some c ∧ c.1 = 96 ∧ sq_body T F tc mc G (z k) t c a = some L ∧ sq_dcl T a.2.1 c.2.1 = some L ∧ mLo T L k w ∧ yp_code B a.1 D [false] r2 = .inl (a.2.2, a.1) ∧ 0 < r2 ∧ r2 ≤ a.1 ∧ (∃ n, w.1 3 = nI n ∧ a.1 ≤ n ∧ n ≤ 8192) ∧ w.2.2.1 10 k = nI r2 ∧ w.2.2.1 11 k = nI a.1 ∧ (∀ (j : Nat) x f r, a.2.2[j]? = some x → sq_run T F tc mc G L (z k + 1 + a.2.1.length) (a.2.2.take j) (sq_0 (z k) t) = some (f :: r) → ¬ f.1.2 = 0 → f.1.2 < a.1 ∧ (x.2.1 = 11 → w.2.2.1 20 f.1.2 = nI (yq a.2.2 a.1 j) ∧ (f.2.1 = 4 → w.2.2.1 21 f.1.2 = 0)) ∧ (x.2.1 = 5 → w.2.2.1 21 f.1.2 = nI (yq a.2.2 a.1 j))) ∧ ∀ (j : Nat) Qj, j ≤ a.2.2.length → sq_run T F tc mc G L (z k + 1 + a.2.1.length) (a.2.2.take j) (sq_0 (z k) t) = some Qj → sQb T Qj
/-- it stays when another body, which lies behind it, is taken down -/
theorem mBd_k (h : mBd D B T F tc mc G z k a v) (h3 : w.1 3 = v.1 3) (h10 : w.2.2.1 10 k = v.2.2.1 10 k) (h11 : w.2.2.1 11 k = v.2.2.1 11 k) (h12 : w.2.2.1 12 k = v.2.2.1 12 k) (h13 : ∀ i, 200 * k ≤ i → i < 200 * k + 200 → w.2.2.1 13 i = v.2.2.1 13 i) (h20 : ∀ i, ¬ i = 0 → i < a.1 → w.2.2.1 20 i = v.2.2.1 20 i ∧ w.2.2.1 21 i = v.2.2.1 21 i) : mBd D B T F tc mc G z k a w := by
  obtain ⟨t, c, L, r2, a1, a2, a3, a4, a5, ⟨m1, m2, m3, m4⟩, a7, a8, a9, a10, a11, a12, a13, a14⟩ := h
  refine ⟨t, c, L, r2, a1, a2, a3, a4, a5, ⟨h12.trans m1, m2, m3, fun i d hd => ?_⟩, a7, a8, a9, by rw [h3]; exact a10, h10.trans a11, h11.trans a12, fun j x f r hx hr h0 => ?_, a14⟩
  · have hi := yl_lt hd
    rw [h13 _ (by omega) (by omega)]
    exact m4 i d hd
  · obtain ⟨b1, b2, b3⟩ := a13 j x f r hx hr h0
    obtain ⟨c1, c2⟩ := h20 f.1.2 h0 b1
    rw [c1, c2]
    exact ⟨b1, b2, b3⟩
abbrev mBf (v w : xk_St) : Prop := yf_fr [4, 5, 6, 7, 8, 9, 10, 11, 21, 22, 23] [0, 1] [10, 11, 12, 13, 20, 21, 22, 23, 24, 25, 26] [1] v w
/-- one body, by the reference -/
theorem mc_body1 {t : Nat} {c : Nat × List Nat × List Nat} (hfu : 8400 ≤ fu) (hb : yp_body D B len p = .inl (a, q)) (hE : yTM T v) (hEn : mEn T F tc mc G v) (hF : F[k]? = some t) (hc : T[t]? = some c) (h96 : c.1 = 96) (hst : ym_st B len p v) (h6 : v.1 6 = 0) (h7 : v.1 7 = 0) (h3 : v.1 3 = nI len) :
    ∃ w, (∀ n, jb_Model_bodyRow_57 fu (n + 1) (nI k) v = jb_Model_bodyRow_57 fu n (nI (k + 1)) w) ∧ mBf v w ∧ ym_st B len q w ∧ w.1 6 = 0 ∧ q = a.1 ∧ p < q ∧ (((∃ L, sq_body T F tc mc G (z k) t c a = some L) ∧ w.1 7 = 0 ∧ mBd D B T F tc mc G z k a w ∧ ∀ j b, ¬ j = k → b.1 ≤ p → mBd D B T F tc mc G z j b v → mBd D B T F tc mc G z j b w) ∨ (sq_body T F tc mc G (z k) t c a = none ∧ w.1 7 = 1)) := by
  obtain ⟨m, q0, r1, r2, h1, b1, h2, h4, h5, rfl, ha, l1, l2, l3, l4⟩ := yp_bodyI hb
  have hk64 : k < F.length := yl_lt hF
  have hF64 := hEn.2.1
  have h8192 := hst.2.2.2.2
  have hN := mk_N (fu := fu) (by omega) hst h6 h1
  have hsum : nI q0 + (lN m).toInt32 = nI (q0 + m) := by rw [sb_nLi (by omega), nI_add]
  generalize hx : xs_A (xs_I v 4 (nI q0)) 11 k (nI (q0 + m)) = x
  have hfx : yf_fr [4] [] [11] [] v x := by rw [← hx]; exact yf_A (yf_I yf_refl (by decide)) (by decide)
  have hstx : ym_st B len q0 x := by rw [← hx]; exact ⟨hst.1, rfl, hst.2.2.1, by omega, h8192⟩
  have x11 : x.2.2.1 11 = upd (v.2.2.1 11) k (nI (q0 + m)) := by rw [← hx]; rfl
  have x6 : x.1 6 = 0 := (hfx.1 6 (by decide)).trans h6
  have x7 : x.1 7 = 0 := (hfx.1 7 (by decide)).trans h7
  have hup : q0 + m ≤ len := b1
  obtain ⟨y, e1, hsty, y6, hy, hyr⟩ := mc_local (fu := fu) (T := T) (F := F) (f := k) (B := B) (lim := len) hfu (yTM_fr hE hfx (by decide)) (mEn_fr hEn hfx (by decide)) hF hc h96 hstx x6 x7 (yl_N hup _ h2) (yl_rep (fun _ => yl_loc hup) _ _ _ h4)
  generalize hw : xs_A y 10 k (y.1 4) = w
  have hfw : yf_fr [] [] [10] [] y w := by rw [← hw]; exact yf_A yf_refl (by decide)
  have w10 : w.2.2.1 10 = upd (y.2.2.1 10) k (nI r2) := by rw [← hw, ← hsty.2.1]; rfl
  have w7 : w.1 7 = y.1 7 := hfw.1 7 (by decide)
  have hvw : yf_fr [4, 6, 7] [] [10, 11, 12, 13] [] v w := yf_trans (yf_mono hfx (by decide)) (yf_trans (yf_mono hy.1 (by decide)) (yf_mono hfw (by decide)))
  have hstep : ∀ n, jb_Model_bodyRow_57 fu (n + 1) (nI k) v = if w.1 7 = 0 then (xs_seq (fm_Model_check fu (nI k) w) fun _ u10 => jb_Model_bodyRow_57 fu n (nI (k + 1)) (xs_I u10 4 (nI (q0 + m)))) else jb_Model_bodyRow_57 fu n (nI (k + 1)) (xs_I w 4 (nI (q0 + m))) := fun n => by
    conv => lhs; unfold jb_Model_bodyRow_57
    unfold jb_Model_bodyRow_123
    simp only [xs_let]
    rw [hEn.1, if_neg (nI_ge hk64 (by omega)), if_pos h7, hN, ys_seq]
    have q4 : (xs_I v 4 (nI q0)).1 4 = nI q0 := rfl
    rw [q4, hsum, if_neg (nI_in (N := 64) (by omega) (by decide)), nI_clamp (by omega), hx, e1, ys_seq, if_neg (show ¬ (nI k < 0 ∨ 64 ≤ k) from fun y => y.elim (nI_pos (by omega)) (by omega)), hw, nI_1]
  have hwE := yTM_fr hE hvw (by decide)
  have hwEn := mEn_fr hEn hvw (by decide)
  have w11 : w.2.2.1 11 k = nI (q0 + m) := by rw [hfw.2.2.1 11 (by decide), hy.1.2.2.1 11 (by decide), x11, ya_t]
  have w4 : w.1 4 = nI r2 := (hfw.1 4 (by decide)).trans hsty.2.1
  have w6 : w.1 6 = 0 := (hfw.1 6 (by decide)).trans y6
  rcases hyr with ⟨L, d1, d2, d3⟩ | ⟨d1, d2⟩
  · have hstep := fun n => (hstep n).trans (if_pos (w7.trans d2))
    have hLw : mLo T L k w := mLo_fr d3 hfw (by decide)
    obtain ⟨o, o1, o2, o3, o4⟩ := mc_check (fu := fu) (T := T) (F := F) (G := G) (tc := tc) (mc := mc) (L := L) (f := k) (B := B) (lim := q0 + m) (p := r2) (q := q0 + m) (e := z k + 1 + a.2.1.length) (sz := z k) (d := D) hfu h5 ((hvw.2.2.1 1 (by decide)).trans hst.1) w4 w11 ⟨l4, by omega⟩ w6 (w7.trans d2) hwE hwEn hLw hF hc h96 (by omega)
    have hwo := o2.1
    have hvo : mBf v (xs_I o 4 (nI (q0 + m))) := yf_I (yf_trans (yf_mono hvw (by decide)) (yf_mono hwo (by decide))) (by decide)
    have ho5 : o.1 5 = nI len := by rw [o2.2.1, hvw.1 3 (by decide), h3]
    refine ⟨xs_I o 4 (nI (q0 + m)), fun n => by rw [hstep n, o1, ys_seq], hvo, ⟨(hvo.2.2.1 1 (by decide)).trans hst.1, rfl, ho5, by omega, h8192⟩, o2.2.2, ha.symm, by omega, ?_⟩
    have hsb : ∀ s : Option (List sFr), sq_run T F tc mc G L (z k + 1 + a.2.1.length) a.2.2 (sq_0 (z k) t) = s → sq_body T F tc mc G (z k) t c a = s.bind fun _ => some L := fun s hs => by
      unfold sq_body
      rw [d1]
      show (sq_run T F tc mc G L (z k + 1 + a.2.1.length) a.2.2 (sq_0 (z k) t)).bind _ = _
      rw [hs]
    rcases o4 with ⟨⟨Q', q1⟩, q2, q3, q4⟩ | ⟨q1, q2⟩
    · have hs := hsb _ q1
      have o7 := o3 q2
      refine Or.inl ⟨⟨L, hs⟩, q2, ⟨t, c, L, r2, hF, hc, h96, hs, d1, ?_, by rw [ha]; exact h5, by omega, by omega, ⟨len, by show o.1 3 = nI len; rw [hwo.1 3 (by decide), hvw.1 3 (by decide), h3], by omega, h8192⟩, ?_, ?_, fun j x f r hx hr h0 => ?_, q4⟩, fun j b hj hbp hbd => mBd_k hbd (by show o.1 3 = v.1 3; rw [hwo.1 3 (by decide), hvw.1 3 (by decide)]) ?_ ?_ ?_ (fun i i1 i2 => ?_) fun i i1 i2 => ?_⟩
      · exact mLo_fr hLw (w := xs_I o 4 (nI (q0 + m))) (yf_I (k := 4) (x := nI (q0 + m)) hwo (by decide)) (by decide)
      · show o.2.2.1 10 k = nI r2
        rw [hwo.2.2.1 10 (by decide), w10, ya_t]
      · show o.2.2.1 11 k = nI a.1
        rw [hwo.2.2.1 11 (by decide), w11, ha]
      · rw [ha]
        obtain ⟨n1, n2⟩ := q3 j x f r hx hr
        exact ⟨n1, n2⟩
      · show o.2.2.1 10 j = v.2.2.1 10 j
        rw [hwo.2.2.1 10 (by decide), w10, ya_j hj, hy.1.2.2.1 10 (by decide), hfx.2.2.1 10 (by decide)]
      · show o.2.2.1 11 j = v.2.2.1 11 j
        rw [hwo.2.2.1 11 (by decide), hfw.2.2.1 11 (by decide), hy.1.2.2.1 11 (by decide), x11, ya_j hj]
      · show o.2.2.1 12 j = v.2.2.1 12 j
        rw [hwo.2.2.1 12 (by decide), hfw.2.2.1 12 (by decide), hy.2.2 j hj, hfx.2.2.1 12 (by decide)]
      · show o.2.2.1 13 i = v.2.2.1 13 i
        rw [hwo.2.2.1 13 (by decide), hfw.2.2.1 13 (by decide), hy.2.1 i (by omega), hfx.2.2.1 13 (by decide)]
      · show o.2.2.1 20 i = v.2.2.1 20 i ∧ o.2.2.1 21 i = v.2.2.1 21 i
        obtain ⟨c1, c2⟩ := o7 i (by omega) i1
        rw [c1, c2, hvw.2.2.1 20 (by decide), hvw.2.2.1 21 (by decide)]
        exact ⟨rfl, rfl⟩
    · exact Or.inr ⟨hsb _ q1, q2⟩
  · have hstep := fun n => (hstep n).trans (if_neg (show ¬ w.1 7 = 0 by rw [w7, d2]; decide))
    have hvo : mBf v (xs_I w 4 (nI (q0 + m))) := yf_I (yf_mono hvw (by decide)) (by decide)
    refine ⟨xs_I w 4 (nI (q0 + m)), hstep, hvo, ⟨(hvo.2.2.1 1 (by decide)).trans hst.1, rfl, ?_, by omega, h8192⟩, w6, ha.symm, by omega, Or.inr ⟨?_, w7.trans d2⟩⟩
    · show w.1 5 = nI len
      rw [hvw.1 5 (by decide), hst.2.2.1]
    · unfold sq_body
      rw [d1]; rfl
end
