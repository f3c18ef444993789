section
variable {α β γ δ σ τ : Type} {u v w u0 : xk_St} {g : Nat → Nat} {T : List (Nat × List Nat × List Nat)} {n fu : Nat} {Q Q' : List sFr} {s : Option (List sFr)}
theorem ml_141 {m : Nat} (h : mK T u0 s v) (hm : m < T.length) : MC (jb_Model_checkNewArray_141 fu (nI m) v) fun _ w => mK T u0 (s.bind (sq_sg T [] [20 + 2 * m])) w := by
  obtain ⟨y1, y2, y3, y4⟩ := yvw_m hm h.1.2.1.1
  unfold jb_Model_checkNewArray_141
  rw [mm_rm0, ys_seq, sg_p, sg_e]
  exact MC_seq (ml_push h y3) fun _ x hx => MC_ok hx
theorem ml_a59 {m d k : Nat} (hm : m < T.length) (hd : d < 150) (hw : yvw T.length (upk d)) (hj1 : u0.2.1 1 = lN k) (hk : k ≤ 64) : ∀ (j i n : Nat) (s : Option (List sFr)) (v : xk_St), i + j = k → j < n → mK T u0 s v → MC (jb_Model_checkNewArray_59 fu n (nI m) (nI d) (lN i) v) fun _ w => mK T u0 (s.bind (sq_sg T (List.replicate j (upk d)) [20 + 2 * m])) w := by
  intro j
  induction j with
  | zero =>
    intro i n s v hi hn h
    obtain ⟨n, rfl⟩ : ∃ m, n = m + 1 := ⟨n - 1, by omega⟩
    unfold jb_Model_checkNewArray_59 jb_Model_checkNewArray_90
    simp only [xs_let]
    rw [(mK_8 h).2.2, hj1, if_pos ((pk_lLE (by omega) (by omega)).mpr (by omega))]
    exact ml_141 h hm
  | succ j ih =>
    intro i n s v hi hn h
    obtain ⟨n, rfl⟩ : ∃ m, n = m + 1 := ⟨n - 1, by omega⟩
    unfold jb_Model_checkNewArray_59 jb_Model_checkNewArray_90
    simp only [xs_let]
    rw [(mK_8 h).2.2, hj1, if_neg (fun y => by have := (pk_lLE (by omega) (by omega)).mp y; omega)]
    rcases mk_s h with ⟨Q, rfl, h7⟩ | ⟨rfl, h7⟩
    · rw [if_pos h7, mm_unp hd, ys_seq]
      refine MC_seq (ml_take h hw) fun _ x hx => ?_
      rw [lN_1, List.replicate_succ, sg_t]
      exact ih (i + 1) n _ x (by omega) (by omega) hx
    · rw [if_neg (by rw [h7]; decide)]
      exact ml_141 h hm
/-- new arrays, by the reference: 6, 7, 8 -/
theorem ml_new {o m k : Nat} (hfu : 200 ≤ fu) (h : mK T u0 (some Q) v) (h9 : u0.1 9 = nI o) (ho : 6 ≤ o) (ho2 : o ≤ 8) (hj : u0.2.1 0 = lN m) (hm : m < 2 ^ 32) (hj1 : o = 8 → u0.2.1 1 = lN k ∧ k < 2 ^ 32) : MC (fm_Model_checkNewArray fu v) fun _ w => mO T u0 (sq_array T o m k Q) w := by
  have h64 := h.1.2.1.1
  unfold fm_Model_checkNewArray sq_array
  rcases mm_oT (K := 2) h.1 ((congrFun (mK_8 h).2.2 0).trans hj) hm (Or.inr rfl) with ⟨c, hc, h94, e⟩ | ⟨hno, e⟩
  · have hlt := yl_lt hc
    have e : fm_Model_objectType (2 : Int32) v = _ := e
    obtain ⟨a, g, hv⟩ := h.1.2.2.1 m c hlt hc
    have hl1 := g.2.2.2.2 (by omega)
    obtain ⟨d, hd⟩ := yl_get (l := c.2.1) (k := 0) (by omega)
    obtain ⟨w1, w2, w3⟩ := upk_m h.1 hc hd
    obtain ⟨p1, p2, p3⟩ := yTM_p h.1 hc hd
    have p1 : v.2.2.1 7 (32 * m) = nI d := p1
    simp only [xs_let]
    rw [e, ys_seq, if_pos (show (0 : Int32) ≤ nI m from nI_le (a := 0) (by omega) (by omega)), nI_320, if_neg (nI_in (N := 2048) (by omega) (by decide)), nI_clamp (by omega), p1, hc]
    show MC _ fun _ w => mO T u0 (xs_if (c.1 = 94) (c.2.1[0]?.bind fun d => sq_arrc T o m k c d Q)) w
    rw [xs_ifp (show c.1 = 94 by omega), hd]
    show MC _ fun _ w => mO T u0 (sq_arrc T o m k c d Q) w
    unfold sq_arrc
    rw [(mK_8 h).2.1, h9]
    have c8 : nI o = (8 : Int32) ↔ o = 8 := nI_eq (b := 8) (by omega) (by decide)
    have c6 : nI o = (6 : Int32) ↔ o = 6 := nI_eq (b := 6) (by omega) (by decide)
    by_cases z8 : o = 8
    · obtain ⟨j1, j2⟩ := hj1 z8
      rw [if_pos (c8.mpr z8), if_neg (show ¬ o = 6 by omega), if_neg (show ¬ o = 7 by omega), if_pos z8]
      have cle : lN k ≤ (64 : Int64) ↔ k ≤ 64 := pk_lLE (b := 64) (by omega) (by omega)
      have no : ¬ (v.1 7 = 0 ∧ k ≤ 64) → MC (jb_Model_checkNewArray_49 fu (nI m) (nI d) v) fun _ w => mO T u0 (xs_if (k ≤ 64) (sq_sg T (List.replicate k (upk d)) [20 + 2 * m] Q)) w := fun hn => by
        have hf := ml_flag (P := k ≤ 64) (x := 1) h (Or.inr rfl) ⟨fun y => absurd y (by decide), fun y => absurd y hn⟩
        have hnone : xs_if (k ≤ 64) (some Q) = none := by
          by_cases z : k ≤ 64
          · rcases mk_s h with ⟨Q0, e0, h7⟩ | ⟨e0, h7⟩
            · exact absurd ⟨h7, z⟩ hn
            · cases e0
          · exact xs_ifn z
        have hnone2 : xs_if (k ≤ 64) (sq_sg T (List.replicate k (upk d)) [20 + 2 * m] Q) = none := by
          by_cases z : k ≤ 64
          · rw [xs_ifp z] at hnone; cases hnone
          · exact xs_ifn z
        rw [hnone] at hf
        rw [hnone2]
        unfold jb_Model_checkNewArray_49 jb_Model_checkNewArray_54
        simp only [xs_let]
        rw [if_pos (Or.inr trivial)]
        obtain ⟨f, rfl⟩ : ∃ f, fu = f + 1 := ⟨fu - 1, by omega⟩
        unfold jb_Model_checkNewArray_59 jb_Model_checkNewArray_90
        simp only [xs_let]
        have h141 := MC_mono (ml_141 (fu := f + 1) hf hlt) fun _ x hx => mO_K hx
        by_cases zz : (xs_I v 7 1).2.1 1 ≤ 0
        · rw [if_pos zz]; exact h141
        · rw [if_neg zz, if_neg (show ¬ (xs_I v 7 1).1 7 = 0 from fun y => absurd (show (1 : Int32) = 0 from y) (by decide))]
          exact h141
      by_cases z7 : v.1 7 = 0
      · rw [if_pos z7, (mK_8 h).2.2, j1]
        by_cases zk : k ≤ 64
        · rw [if_pos (cle.mpr zk), xs_ifp zk]
          have hf := ml_flag (P := True) (x := 0) h (Or.inl rfl) ⟨fun _ => ⟨z7, trivial⟩, fun _ => rfl⟩
          rw [xs_ifp trivial] at hf
          unfold jb_Model_checkNewArray_54
          simp only [xs_let]
          rw [if_pos (Or.inl trivial)]
          exact MC_mono (ml_a59 hlt w3 w1 j1 zk k 0 fu (some Q) _ (by omega) (by omega) hf) fun _ x hx => mO_K hx
        · rw [if_neg (fun y => zk (cle.mp y))]
          exact no fun y => zk y.2
      · rw [if_neg z7]
        exact no fun y => z7 y.1
    · rw [if_neg (fun y => z8 (c8.mp y))]
      refine MC_seq (ml_take (x := 1) h yvw_1) fun _ x hx => ?_
      rw [(mK_8 hx).2.1, h9]
      by_cases z6 : o = 6
      · rw [if_pos (c6.mpr z6), if_pos z6, mm_unp w3, ys_seq]
        refine MC_seq (ml_take hx w1) fun _ y hy => ?_
        refine MC_mono (ml_141 hy hlt) fun _ t ht => mO_K ?_
        have es : sq_sg T [1, upk d] [20 + 2 * m] Q = (some Q).bind (sq_sg T [1, upk d] [20 + 2 * m]) := rfl
        rw [es, sg_t, sg_t]
        exact ht
      · rw [if_neg (fun y => z6 (c6.mp y)), if_neg z6, if_pos (show o = 7 by omega)]
        unfold jb_Model_checkNewArray_133 
        have go : ∀ y : Int32, (y = 0 ∨ y = 1) → (y = 0 ↔ x.1 7 = 0 ∧ ydf d) → MC (jb_Model_checkNewArray_138 fu (nI m) y x) fun _ w => mO T u0 (xs_if (ydf d) (sq_sg T [1] [20 + 2 * m] Q)) w := fun y hy h0 => by
          have hf := ml_flag hx hy h0
          unfold jb_Model_checkNewArray_138
          simp only [xs_let]
          rw [if_pos hy]
          refine MC_mono (ml_141 hf hlt) fun _ t ht => mO_K ?_
          have es : xs_if (ydf d) (sq_sg T [1] [20 + 2 * m] Q) = (xs_if (ydf d) ((some Q).bind (sq_take (yl_f T) 1))).bind (sq_sg T [] [20 + 2 * m]) := by
            by_cases z : ydf d
            · rw [xs_ifp z, xs_ifp z]
              have es : sq_sg T [1] [20 + 2 * m] Q = (some Q).bind (sq_sg T [1] [20 + 2 * m]) := rfl
              rw [es, sg_t]
            · rw [xs_ifn z, xs_ifn z]; rfl
          rw [es]
          exact ht
        by_cases z7 : x.1 7 = 0
        · rw [if_pos z7]
          obtain ⟨d1, d2⟩ := mm_dflt (v := x) w3
          by_cases zd : ydf d
          · rw [d1 zd, ys_seq, if_neg (show ¬ (1 : Int32) = 0 by decide)]
            exact go 0 (Or.inl rfl) ⟨fun _ => ⟨z7, zd⟩, fun _ => rfl⟩
          · rw [d2 zd, ys_seq, if_pos rfl]
            exact go 1 (Or.inr rfl) ⟨fun y => absurd y (by decide), fun y => absurd y.2 zd⟩
        · rw [if_neg z7]
          exact go 1 (Or.inr rfl) ⟨fun y => absurd y (by decide), fun y => absurd y.1 z7⟩
  · have e : fm_Model_objectType (2 : Int32) v = _ := e
    rw [e, ys_seq, if_neg (show ¬ (0 : Int32) ≤ -1 by decide)]
    have es : (T[m]?.bind fun c => xs_if (c.1 = 94) (c.2.1[0]?.bind fun d => sq_arrc T o m k c d Q)) = none := by
      cases hc : T[m]? with
      | none => rfl
      | some c => exact xs_ifn (hno c hc)
    rw [es]
    exact MC_ok (mO_K (ml_no h))
/-- all arrays but their length -/
theorem ml_array {o m k : Nat} (hfu : 200 ≤ fu) (h : mK T u0 (some Q) v) (h9 : u0.1 9 = nI o) (ho : 6 ≤ o) (ho2 : o ≤ 16) (ho3 : ¬ o = 15) (ho4 : ¬ o = 9 ∧ ¬ o = 10) (hj : u0.2.1 0 = lN m) (hm : m < 2 ^ 32) (hj1 : o = 8 → u0.2.1 1 = lN k ∧ k < 2 ^ 32) : MC (fm_Model_checkObjects fu v) fun _ w => mO T u0 (sq_array T o m k Q) w := by
  unfold fm_Model_checkObjects
  have c9 : (9 : Int32) ≤ nI o ↔ 9 ≤ o := nI_leI (a := 9) (by omega) (by omega)
  rw [(mK_8 h).2.1, h9, if_pos (show (6 : Int32) ≤ nI o from nI_le (a := 6) (by omega) (by omega))]
  by_cases z9 : 9 ≤ o
  · rw [if_pos (c9.mpr z9), if_neg (show ¬ nI o = (15 : Int32) from fun y => ho3 ((nI_eq (b := 15) (by omega) (by decide)).mp y)), if_neg (show ¬ (17 : Int32) ≤ nI o from nI_ge (b := 17) (by omega) (by decide))]
    exact MC_seq (ml_arr h h9 (by omega) ho2 ho3 hj hm) fun _ x hx => MC_ok hx
  · rw [if_neg (fun y => z9 (c9.mp y))]
    exact MC_seq (ml_new hfu h h9 ho (by omega) hj hm hj1) fun _ x hx => MC_ok hx
end
