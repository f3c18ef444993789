section
variable {α β γ δ σ τ : Type} {u v w u0 : xk_St} {g : Nat → Nat} {T : List (Nat × List Nat × List Nat)} {F : List Nat} {G : List (Nat × Nat × Nat × Int64)} {L : List Nat} {n fu tc mc : Nat} {Q Q' : List sFr} {s : Option (List sFr)}
theorem sb_prt {t : Nat} {c : Nat × List Nat × List Nat} {b : Bool} (hc : T[t]? = some c) (h64 : t < 64) : sb_pr T b (.inr (lN t)) = if b then c.2.2 else c.2.1 := by
  have e : sb_n (lN t) = t := sb_nL (by omega)
  cases b
  · show (match T[sb_n (lN t)]? with
      | none => []
      | some c => c.2.1) = _
    rw [e, hc]; rfl
  · show (match T[sb_n (lN t)]? with
      | none => []
      | some c => c.2.2) = _
    rw [e, hc]; rfl
/-- what a function's type takes and brings -/
theorem ml_115 {t : Nat} {c : Nat × List Nat × List Nat} (hfu : 200 ≤ fu) (h : mK T u0 s v) (hc : T[t]? = some c) (h6 : c.1 = 96) : MC (jb_Model_checkCall_115 fu (nI t) v) fun _ w => mK T u0 (s.bind (sq_sg T c.2.1.reverse c.2.2)) w := by
  have h64 := h.1.2.1.1
  have ht := yl_lt hc
  obtain ⟨b1, b2, -, -⟩ := sb_0 hc h6 (by omega)
  unfold jb_Model_checkCall_115
  rw [nI_toL (by omega)]
  refine MC_seq (ml_takeAll (b := false) (t := .inr (lN t)) hfu h b1 b2) fun _ w hw => ?_
  refine MC_seq (ml_bring (b := true) (t := .inr (lN t)) hfu hw b1 b2) fun _ x hx => MC_ok ?_
  rw [sb_prt hc (by omega), sb_prt hc (by omega)] at hx
  have e : (s.bind (sq_takes (yl_f T) (if false = true then c.2.2 else c.2.1).reverse)).bind (sq_pushes (if true = true then c.2.2 else c.2.1)) = s.bind (sq_sg T c.2.1.reverse c.2.2) := by
    rw [Option.bind_assoc]; rfl
  rw [← e]
  exact hx
/-- calls, by the reference -/
theorem ml_call {o k : Nat} (hfu : 200 ≤ fu) (h : mK T u0 (some Q) v) (h7 : v.1 7 = 0) (hE : mEn T F tc mc G v) (h8 : v.1 8 = nI o) (ho : o = 16 ∨ o = 17) (hj : v.2.1 0 = lN k) (hk : k < 2 ^ 32) : MC (fm_Model_checkCall fu v) fun _ w => mK T u0 (if o = 16 then F[k]?.bind fun t => T[t]?.bind fun c => sq_sg T c.2.1.reverse c.2.2 Q else T[k]?.bind fun c => xs_if (c.1 = 96 ∧ tc = 1 ∧ v.2.1 1 = 0) (sq_sg T (1 :: c.2.1.reverse) c.2.2 Q)) w := by
  obtain ⟨e1, e2, e3, ⟨e4, e5⟩, -⟩ := hE
  have h64 := h.1.2.1.1
  have bad : MC (jb_Model_checkCall_63 fu 1 v) fun _ w => mK T u0 none w := by
    unfold jb_Model_checkCall_63
    simp only [xs_let, if_true, true_or, or_true]
    rw [if_neg (show ¬ (xs_I v 7 1).1 7 = 0 by show ¬ (1 : Int32) = 0; decide)]
    exact MC_ok (ml_no h)
  have good : mK T u0 (some Q) (xs_I v 7 0) := by
    have := ml_flag (P := True) (x := 0) h (Or.inl rfl) ⟨fun _ => ⟨h7, trivial⟩, fun _ => rfl⟩
    rw [xs_ifp trivial] at this
    exact this
  unfold fm_Model_checkCall jb_Model_checkCall_58
  rw [h8]
  rcases ho with rfl | rfl
  · rw [if_pos (show nI 16 = (16 : Int32) from rfl), if_pos rfl, hj, e1, nI_toL (by omega)]
    have hlt : lN k < lN F.length ↔ k < F.length := pk_lLT (by omega) (by omega)
    by_cases z : k < F.length
    · rw [if_pos (hlt.mpr z)]
      obtain ⟨t, ht⟩ := yl_get (l := F) z
      obtain ⟨c1, c, hc, h6⟩ := e3 k t ht
      unfold jb_Model_checkCall_63 jb_Model_checkCall_88
      simp only [xs_let, if_true, true_or, or_true]
      have x8 : (xs_I v 7 0).1 8 = nI 16 := h8
      rw [if_pos (show (xs_I v 7 0).1 7 = 0 from rfl), x8, if_neg (show ¬ nI 16 = (17 : Int32) by decide), if_pos (show nI 16 = (16 : Int32) from rfl)]
      have xj : (xs_I v 7 0).2.1 0 = lN k := hj
      rw [xj, sb_nLi (by omega), if_neg (nI_in (N := 64) (by omega) (by decide)), nI_clamp (by omega), show (xs_I v 7 0).2.2.1 9 k = nI t from c1, ht]
      show MC _ fun _ w => mK T u0 (T[t]?.bind fun c => sq_sg T c.2.1.reverse c.2.2 Q) w
      rw [hc]
      exact ml_115 hfu good hc h6
    · rw [if_neg (fun y => z (hlt.mp y)), List.getElem?_eq_none (by omega)]
      exact bad
  · rw [if_neg (show ¬ nI 17 = (16 : Int32) by decide), if_neg (show ¬ (17 : Nat) = 16 by decide), e4]
    have ct : nI tc = (0 : Int32) ↔ tc = 0 := nI_eq (b := 0) (by omega) (by decide)
    have none_of : ¬ (∃ c, T[k]? = some c ∧ c.1 = 96 ∧ tc = 1 ∧ v.2.1 1 = 0) → (T[k]?.bind fun c => xs_if (c.1 = 96 ∧ tc = 1 ∧ v.2.1 1 = 0) (sq_sg T (1 :: c.2.1.reverse) c.2.2 Q)) = none := fun hn => by
      cases hc : T[k]? with
      | none => rfl
      | some c => exact xs_ifn fun y => hn ⟨c, hc, y⟩
    by_cases z1 : tc = 0
    · rw [if_pos (ct.mpr z1), none_of (fun ⟨c, _, _, y, _⟩ => by omega)]
      exact bad
    · rw [if_neg (fun y => z1 (ct.mp y))]
      by_cases z2 : v.2.1 1 = 0
      · rw [if_pos z2, hj]
        obtain ⟨m1, m2⟩ := mm_isFn (T := T) (u := v) (t := k) (by omega) h64 h.1.1 (yTM_K h.1)
        by_cases z3 : yv_fn T k
        · rw [m1 z3, ys_seq, if_neg (show ¬ (1 : Int32) = 0 by decide)]
          obtain ⟨c, hc, h6⟩ := z3
          have hlt := yl_lt hc
          rw [hc]
          show MC _ fun _ w => mK T u0 (xs_if (c.1 = 96 ∧ tc = 1 ∧ v.2.1 1 = 0) (sq_sg T (1 :: c.2.1.reverse) c.2.2 Q)) w
          rw [xs_ifp ⟨h6, by omega, z2⟩]
          unfold jb_Model_checkCall_63
          simp only [xs_let, if_true, true_or, or_true]
          have x8 : (xs_I v 7 0).1 8 = nI 17 := h8
          rw [if_pos (show (xs_I v 7 0).1 7 = 0 from rfl), x8, if_pos (show nI 17 = (17 : Int32) from rfl)]
          refine MC_seq (MC_mono (mr_take good.1 good.2.1 (x := 1) yvw_1) (P' := fun _ w => mK T u0 ((some Q).bind (sq_take (yl_f T) 1)) w ∧ w.1 8 = nI 17 ∧ w.2.1 0 = lN k) fun _ w hp => ⟨mK_n good hp.1 (yf_mono hp.2 (by decide)), (hp.2.1 8 (by decide)).trans x8, by rw [hp.2.2.1 0 (by decide)]; exact hj⟩) fun _ w hw => ?_
          unfold jb_Model_checkCall_88
          rw [hw.2.1, if_neg (show ¬ nI 17 = (16 : Int32) by decide), hw.2.2, sb_nLi (by omega)]
          have e : sq_sg T (1 :: c.2.1.reverse) c.2.2 Q = ((some Q).bind (sq_take (yl_f T) 1)).bind (sq_sg T c.2.1.reverse c.2.2) := sq_sgS
          rw [e]
          exact ml_115 hfu hw.1 hc h6
        · rw [m2 z3, ys_seq, if_pos rfl, none_of (fun ⟨c, y1, y2, _⟩ => z3 ⟨c, y1, y2⟩)]
          exact bad
      · rw [if_neg z2, none_of (fun ⟨c, _, _, _, y⟩ => z2 y)]
        exact bad
end
