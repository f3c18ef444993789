section
variable {α β γ δ : Type} {B : Nat → Int32} {u v w : xk_St} {L lim p q fu D len : Nat} {e : Int32} {T : List (Nat × List Nat × List Nat)} {S : Nat → Option (Nat × Nat)} {g : Nat → Nat}
/-- elements as they must be -/
def yv_el (nf nt : Nat) (l : List (Int64 × List Nat)) : Prop := l.length ≤ 64 ∧ (l.length = 0 ∨ nt = 1) ∧ ∀ (k : Nat) a, l[k]? = some a → ∀ (i : Nat) x, a.2[i]? = some x → x < nf
theorem mk_place {x : Int64} (hfu : 20 ≤ fu) (h : ym_st B lim p u) (h6 : u.1 6 = 0) (e : yp_place B lim p = .inl (x, q)) : ∃ v, fm_Model_place fu u = some ((), v) ∧ ym_st B lim q v ∧ v.1 6 = 0 ∧ v.2.1 0 = x ∧ yf_fr [4, 6] [0] [] [] u v := by
  obtain ⟨b, v, e1, e2, e3, e4⟩ := zC_g (zJ_fr (mm_place hfu h h6) yf_fm_Model_place) e
  exact ⟨v, e1, e2, e3, e4.1, e4.2⟩
/-- the functions of one of the elements -/
theorem mm_el57 {k nf : Nat} {b1 : Int32} {k36 : Int32 → Int32 → xk_St → Option (Unit × xk_St)} (hfu : 100 ≤ fu) (hnf : nf ≤ 64) : ∀ (l : List Nat) (p e n : Nat) (v : xk_St), l.length < n → l.length < 2 ^ 32 → yp_rep (yp_N B len) l.length p = .inl (l, e) → ym_st B len p v → v.1 6 = 0 → (v.1 7 = 0 ∨ v.1 7 = 1) → v.1 13 = nI nf →
    ∃ v', jb_Model_elementRow_57 fu k36 n b1 (nI k) (lN l.length) v = k36 b1 (nI (k + 1)) v' ∧ ym_st B len e v' ∧ v'.1 6 = 0 ∧ yf_fr [4, 7] [] [] [] v v' ∧ ((v.1 7 = 0 ∧ (∀ (i : Nat) x, l[i]? = some x → x < nf)) → v'.1 7 = 0) ∧ (¬ (v.1 7 = 0 ∧ (∀ (i : Nat) x, l[i]? = some x → x < nf)) → v'.1 7 = 1) := by
  intro l
  induction l with
  | nil =>
    intro p e n v h1 _ h2 h3 h6 h7 h13
    obtain ⟨n, rfl⟩ : ∃ m, n = m + 1 := ⟨n - 1, by omega⟩
    have hep : e = p := by
      unfold yp_rep at h2
      exact (congrArg Prod.snd (Sum.inl.inj h2)).symm
    unfold jb_Model_elementRow_57
    simp only [xs_let]
    rw [if_pos (show lN ([] : List Nat).length ≤ 0 by decide), nI_1]
    refine ⟨v, rfl, by rw [hep]; exact h3, h6, yf_refl, fun h => h.1, fun h => h7.resolve_left fun z => h ⟨z, fun i x hx => by simp at hx⟩⟩
  | cons x l ih =>
    intro p e n v h1 hl32 h2 h3 h6 h7 h13
    obtain ⟨n, rfl⟩ : ∃ m, n = m + 1 := ⟨n - 1, by omega⟩
    rw [List.length_cons] at h2 h1 hl32
    unfold yp_rep at h2
    obtain ⟨a, q, e1, e2⟩ := yp_thenI h2
    obtain ⟨l', r, e3, e4⟩ := yp_thenI e2
    cases e4
    obtain ⟨hx32, -, hq2⟩ := yp_Nb e1
    have h89 : ∀ s : Int32, (s = 0 ∨ s = 1) → jb_Model_elementRow_89 fu k36 (jb_Model_elementRow_57 fu k36 n) b1 (nI k) (lN (l.length + 1)) s (xs_I v 4 (nI q)) = jb_Model_elementRow_57 fu k36 n b1 (nI k) (lN l.length) (xs_I (xs_I v 4 (nI q)) 7 s) := fun s hs => by
      unfold jb_Model_elementRow_89
      simp only [xs_let]
      rw [if_pos hs]
      have : lN (l.length + 1) - 1 = lN l.length := lN_sub (a := l.length + 1) (b := 1) (by omega)
      rw [this]
    have hstp : jb_Model_elementRow_57 fu k36 (n + 1) b1 (nI k) (lN (x :: l).length) v = jb_Model_elementRow_57 fu k36 n b1 (nI k) (lN l.length) (xs_I (xs_I v 4 (nI q)) 7 (if x < nf then v.1 7 else 1)) := by
      rw [List.length_cons]
      conv => lhs; unfold jb_Model_elementRow_57
      unfold jb_Model_elementRow_84
      simp only [xs_let]
      have e13 : (xs_I v 4 (nI q)).1 13 = nI nf := h13
      have e7 : (xs_I v 4 (nI q)).1 7 = v.1 7 := rfl
      rw [if_neg (show ¬ lN (l.length + 1) ≤ 0 from fun z => by have := (pk_lLE (b := 0) (by omega) (by decide)).mp z; omega), mk_N (by omega) h3 h6 e1, ys_seq, e13, nI_toL (by omega), e7, h89 0 (Or.inl rfl), h89 1 (Or.inr rfl)]
      have hc : lN nf ≤ lN x ↔ nf ≤ x := pk_lLE (by omega) (by omega)
      by_cases z : nf ≤ x
      · rw [if_pos (hc.mpr z), if_neg (show ¬ x < nf by omega)]
      · rw [if_neg (fun y => z (hc.mp y)), if_pos (show x < nf by omega)]
        rcases h7 with z2 | z2
        · rw [if_pos z2, z2]
        · rw [if_neg (by rw [z2]; decide), z2]
    rw [hstp]
    have hs7 : (if x < nf then v.1 7 else 1) = 0 ∨ (if x < nf then v.1 7 else 1) = 1 := by
      split
      · exact h7
      · exact Or.inr rfl
    obtain ⟨v', f1, f2, f3, f4, f5, f6⟩ := ih q e n (xs_I (xs_I v 4 (nI q)) 7 (if x < nf then v.1 7 else 1)) (by omega) (by omega) e3 (ym_I7 (ym_mv h3 hq2)) h6 hs7 h13
    refine ⟨v', f1, f2, f3, yf_trans (yf_I (yf_I yf_refl (by decide)) (by decide)) f4, fun h => f5 ⟨?_, fun i y hy => h.2 (i + 1) y hy⟩, fun h => f6 fun hh => h ?_⟩
    · rw [ys_Ig, if_pos (h.2 0 x rfl)]; exact h.1
    · obtain ⟨g1, g2⟩ := hh
      rw [ys_Ig] at g1
      by_cases z : x < nf
      · rw [if_pos z] at g1
        refine ⟨g1, fun i y hy => ?_⟩
        cases i with
        | zero => cases hy; exact z
        | succ i => exact g2 i y hy
      · rw [if_neg z] at g1
        exact absurd g1 (by decide)
/-- elements are held against what is there -/
theorem mm_elements {l : List (Int64 × List Nat)} {nf nt : Nat} (hfu : 8200 ≤ fu) (hX : yX B (yp_el B) (S 9) l) (hB : yB B len S u) (h7 : u.1 7 = 0) (h13 : u.1 13 = nI nf) (h14 : u.1 14 = nI nt) (hnf : nf ≤ 64) (hnt : nt ≤ 1) :
    ∃ v, fm_Model_elementRow fu u = some ((), v) ∧ v.1 6 = 0 ∧ yf_fr [4, 5, 6, 7] [0] [] [] u v ∧ ((yv_el nf nt l ∧ v.1 7 = 0) ∨ (¬ yv_el nf nt l ∧ v.1 7 = 1)) := by
  unfold fm_Model_elementRow
  obtain ⟨w, q, e, r1, r2, r3, r4, r5⟩ := mm_rowOf (fu := fu) (id := 9) (by omega) (by decide) (fun _ => yp_el_eats) (fun _ _ _ h => yl_el h) hX hB h7
  have r1' : fm_Model_rowOf fu 9 u = _ := r1
  rw [r1', ys_seq]
  have wfr : ∀ s, yf_fr [4, 5, 6, 7] [0] [] [] u (xs_I w 7 s) := fun s => yf_I (yf_mono r2 (by decide)) (by decide)
  have w6 : w.1 6 = 0 := (r2.1 6 (by decide)).trans hB.2.2.2.2.2
  unfold jb_Model_elementRow_26 jb_Model_elementRow_30 jb_Model_elementRow_31
  simp only [xs_let, if_true, true_or, or_true]
  have hW : ∀ (n : Nat) (b k : Int32) (v : xk_St), v.1 7 = 1 → jb_Model_elementRow_36 fu (n + 1) b k v = some ((), v) := fun n b k v hv => by
    unfold jb_Model_elementRow_36
    simp only [xs_let]
    rw [if_neg (show ¬ v.1 7 = 0 by rw [hv]; decide)]
    split <;> rfl
  obtain ⟨f, hf⟩ : ∃ m, fu = m + 1 := ⟨fu - 1, by omega⟩
  have hbad : ∀ b : Int32, ¬ yv_el nf nt l → ∃ v, jb_Model_elementRow_36 fu fu b 0 (xs_I w 7 1) = some ((), v) ∧ v.1 6 = 0 ∧ yf_fr [4, 5, 6, 7] [0] [] [] u v ∧ ((yv_el nf nt l ∧ v.1 7 = 0) ∨ (¬ yv_el nf nt l ∧ v.1 7 = 1)) := fun b hb => by
    refine ⟨xs_I w 7 1, ?_, w6, wfr 1, Or.inr ⟨hb, rfl⟩⟩
    conv => lhs; arg 2; rw [hf]
    exact hW f b 0 _ rfl
  by_cases hl64 : l.length ≤ 64
  · rw [if_pos hl64] at r3
    rw [if_pos r3, if_pos hl64]
    have hgood : (l.length = 0 ∨ nt = 1) → ∃ v, jb_Model_elementRow_36 fu fu (nI l.length) 0 (xs_I w 7 0) = some ((), v) ∧ v.1 6 = 0 ∧ yf_fr [4, 5, 6, 7] [0] [] [] u v ∧ ((yv_el nf nt l ∧ v.1 7 = 0) ∨ (¬ yv_el nf nt l ∧ v.1 7 = 1)) := fun hok => by
      have := mt_loop (B := B) (len := len) (l := l) (it := yp_el B len) (fun k a => ∀ (i : Nat) x, a.2[i]? = some x → x < nf) (fun k v => yf_fr [4, 5, 6, 7] [0] [] [] u v) (fun v => yf_fr [4, 5, 6, 7] [0] [] [] u v) (fun m k v => jb_Model_elementRow_36 fu m (nI l.length) (nI k) v) (fun v => some ((), v)) (fun m v => ?_) (fun m k v hk hv => hW m _ _ v hv) (fun m k a p q v hl hp hv v6 v7 hI => ?_) l.length 0 q e fu (xs_I w 7 0) (by omega) (by omega) (by rw [List.drop_zero]; exact r5) (fun z => ym_I7 (r4 z)) w6 rfl (wfr 0)
      · obtain ⟨v, g1, g2, g3⟩ := this
        refine ⟨v, g1, g2, ?_⟩
        rcases g3 with ⟨c1, c2, c3, -⟩ | ⟨⟨j, x, c1, c1'⟩, c2, c3⟩
        · exact ⟨c3, Or.inl ⟨⟨hl64, hok, fun k c hc => c1 k c (Nat.zero_le _) hc⟩, c2⟩⟩
        · exact ⟨c3, Or.inr ⟨fun z => c1' (z.2.2 j x c1), c2⟩⟩
      · show jb_Model_elementRow_36 fu (m + 1) (nI l.length) (nI l.length) v = _
        unfold jb_Model_elementRow_36
        simp only [xs_let]
        rw [if_pos (Int32.le_refl _)]
      · have hk := yl_lt hl
        obtain ⟨x, q1, p1, hp⟩ := yp_thenI hp
        obtain ⟨n, q2, p2, hp⟩ := yp_thenI hp
        obtain ⟨ns, q3, p3, hp⟩ := yp_thenI hp
        cases hp
        have hnlen := yp_repl p3
        have hnb := yp_Nb p2
        have hpe := yp_rep_eats yp_N_eats' p3
        have hlim := hpe.2.1 hnb.2.2
        have hv8 := hv.2.2.2.2
        obtain ⟨y, d1, d2, d3, d4, d5⟩ := mk_place (fu := fu) (by omega) hv v6 p1
        have yfr : yf_fr [4, 5, 6, 7] [0] [] [] u (xs_I y 4 (nI q2)) := yf_I (yf_trans hI (yf_mono d5 (by decide))) (by decide)
        have y7 : (xs_I y 4 (nI q2)).1 7 = 0 := (d5.1 7 (by decide)).trans v7
        have y13 : (xs_I y 4 (nI q2)).1 13 = nI nf := (yfr.1 13 (by decide)).trans h13
        have hstp : jb_Model_elementRow_36 fu (m + 1) (nI l.length) (nI k) v = jb_Model_elementRow_57 fu (jb_Model_elementRow_36 fu m) fu (nI l.length) (nI k) (lN n) (xs_I y 4 (nI q2)) := by
          conv => lhs; unfold jb_Model_elementRow_36
          simp only [xs_let]
          rw [if_neg (nI_ge (by omega) (by omega)), if_pos v7, d1, ys_seq, mk_N (by omega) d2 d3 p2, ys_seq]
        rw [← hnlen] at p3
        obtain ⟨z, f1, f2, f3, f4, f5, f6⟩ := mm_el57 (fu := fu) (k := k) (b1 := nI l.length) (k36 := jb_Model_elementRow_36 fu m) (by omega) hnf ns q2 q fu (xs_I y 4 (nI q2)) (by omega) (by omega) p3 (ym_mv d2 hnb.2.2) d3 (Or.inl y7) y13
        rw [hnlen] at f1
        show ∃ v', jb_Model_elementRow_36 fu (m + 1) (nI l.length) (nI k) v = _ ∧ _
        rw [hstp, f1]
        have zfr : yf_fr [4, 5, 6, 7] [0] [] [] u z := yf_trans yfr (yf_mono f4 (by decide))
        refine ⟨z, rfl, f3, ?_⟩
        by_cases hall : ∀ (i : Nat) x, ns[i]? = some x → x < nf
        · exact Or.inl ⟨hall, f5 ⟨y7, hall⟩, f2, zfr⟩
        · exact Or.inr ⟨hall, f6 (fun h => hall h.2), zfr⟩
    have c2 : nI l.length ≤ (0 : Int32) ↔ l.length ≤ 0 := nI_leI (b := 0) (by omega) (by decide)
    by_cases k2 : l.length ≤ 0
    · rw [if_pos (c2.mpr k2)]
      exact hgood (Or.inl (by omega))
    · rw [if_neg (fun z => k2 (c2.mp z)), show w.1 14 = nI nt from (r2.1 14 (by decide)).trans h14]
      have c3 : nI nt = (0 : Int32) ↔ nt = 0 := nI_eq (b := 0) (by omega) (by decide)
      by_cases k3 : nt = 0
      · rw [if_pos (c3.mpr k3)]
        exact hbad _ fun h => by have := h.2.1; omega
      · rw [if_neg (fun z => k3 (c3.mp z))]
        exact hgood (Or.inr (by omega))
  · rw [if_neg hl64] at r3
    rw [if_neg (show ¬ w.1 7 = 0 by rw [r3]; decide)]
    exact hbad _ fun h => hl64 h.1
/-- the class's check of functions -/
theorem hh_functions {F : List Nat} {n : Option Nat} (hfu : 100 ≤ fu) (hF64 : F.length ≤ 64) (h10 : u.1 10 = nI F.length) (hF : yi_rows (fun v k n => v.2.2.1 12 k = nI (yn_c n)) F u) (hb : ∀ (k : Nat) t, F[k]? = some t → t < 2 ^ 32) (h6 : u.1 6 = yst_h n) (hn : ∀ m, n = some m → m < 2 ^ 32) (hT : yTh T u) (hV : yV1 T) :
    (((∀ (k : Nat) t, F[k]? = some t → yv_fn T t) ∧ yv_first T F n) → fm_Checker_checkFunctions fu u = some (.inl (), u)) ∧ (¬ ((∀ (k : Nat) t, F[k]? = some t → yv_fn T t) ∧ yv_first T F n) → fm_Checker_checkFunctions fu u = some (.inr 0, u)) := by
  have h64T := hT.2.1
  have n1 : fm_Checker_need 1 u = some (.inl (), u) := if_neg (by decide)
  have n0 : fm_Checker_need 0 u = some (.inr 0, u) := if_pos rfl
  have hyc : ∀ t, nI T.length ≤ nI (yn_c t) ↔ T.length ≤ t := fun t => by
    rw [nI_leI (by omega) (by have := yn_cb t; omega)]
    unfold yn_c; split <;> omega
  have hyF : ∀ t, nI F.length ≤ nI (yn_c t) ↔ F.length ≤ t := fun t => by
    rw [nI_leI (by omega) (by have := yn_cb t; omega)]
    unfold yn_c; split <;> omega
  have h133 : ∀ s : Int32, jb_Checker_checkFunctions_133 fu s u = xs_try (fm_Checker_need s u) fun _ u3 => some (.inl (()), u3) := fun s => rfl
  -- the loop's end
  have hend : (∀ (k : Nat) t, F[k]? = some t → yv_fn T t) → ∀ m, (yv_first T F n → jb_Checker_checkFunctions_2 fu (m + 1) (nI F.length) u = some (.inl (), u)) ∧ (¬ yv_first T F n → jb_Checker_checkFunctions_2 fu (m + 1) (nI F.length) u = some (.inr 0, u)) := fun hfn m => by
    unfold jb_Checker_checkFunctions_2
    simp only [xs_let]
    rw [h10, if_pos (Int32.le_refl _), h6]
    cases n with
    | none =>
      rw [if_pos (show yst_h none = -1 from rfl)]
      exact ⟨fun _ => rfl, fun h => absurd (fun f hf => by cases hf) h⟩
    | some f =>
      have hf32 := hn f rfl
      have hne : ¬ yst_h (some f) = -1 := fun z => by
        have z : nI (yn_c f) = -1 := z
        have := nI_toInt (n := yn_c f) (by have := yn_cb f; omega)
        rw [z] at this
        have h3 : (-1 : Int) = (yn_c f : Int) := this
        omega
      have ey : yst_h (some f) = nI (yn_c f) := rfl
      rw [if_neg hne, ey]
      unfold jb_Checker_checkFunctions_82
      by_cases z : F.length ≤ f
      · rw [if_pos ((hyF f).mpr z), n0, ys_tryr]
        refine ⟨fun h => ?_, fun _ => rfl⟩
        obtain ⟨t, c, d1, -⟩ := h f rfl
        have := yl_lt d1
        omega
      · rw [if_neg (fun y => z ((hyF f).mp y)), n1, ys_tryl, h6, ey, yn_cs (by omega), hh_ix (by omega), nI_clamp (by omega)]
        simp only [xs_let]
        obtain ⟨t, ht⟩ := yl_get (l := F) (k := f) (by omega)
        obtain ⟨c, hc, h96⟩ := hfn f t ht
        have htl := yl_lt hc
        obtain ⟨ty, tg⟩ := hT.2.2 t c hc
        have hv := hV.2 t c hc
        rw [hF f t (by omega) ht, yn_cs (by omega), hh_ix (by omega), hh_ix (by omega), nI_clamp (by omega), ty.2.1, ty.2.2.1, if_pos h96, yn_cs (by have := hv.1; omega), yn_cs (by have := hv.2.1 h96; omega)]
        have c1 : nI c.2.1.length = (0 : Int32) ↔ c.2.1.length = 0 := nI_eq (b := 0) (by have := hv.1; omega) (by decide)
        have c2 : nI c.2.2.length = (0 : Int32) ↔ c.2.2.length = 0 := nI_eq (b := 0) (by have := hv.2.1 h96; omega) (by decide)
        unfold jb_Checker_checkFunctions_132
        rw [h133, h133, n0, n1, ys_tryl, ys_tryr]
        have hiff : yv_first T F (some f) ↔ c.2.1.length = 0 ∧ c.2.2.length = 0 := by
          constructor
          · intro h
            obtain ⟨t', c', d1, d2, d3, d4⟩ := h f rfl
            rw [ht] at d1; cases d1
            rw [hc] at d2; cases d2
            exact ⟨d3, d4⟩
          · intro h g hg
            cases hg
            exact ⟨t, c, ht, hc, h.1, h.2⟩
        rw [hiff]
        by_cases k1 : c.2.1.length = 0
        · rw [if_pos (c1.mpr k1)]
          by_cases k2 : c.2.2.length = 0
          · rw [if_pos (c2.mpr k2)]
            exact ⟨fun _ => rfl, fun h => absurd ⟨k1, k2⟩ h⟩
          · rw [if_neg (fun z => k2 (c2.mp z))]
            exact ⟨fun h => absurd h.2 k2, fun _ => rfl⟩
        · rw [if_neg (fun z => k1 (c1.mp z))]
          exact ⟨fun h => absurd h.1 k1, fun _ => rfl⟩
  have hstp : ∀ m k t, F[k]? = some t → jb_Checker_checkFunctions_2 fu (m + 1) (nI k) u = if T.length ≤ t then some (.inr 0, u) else if u.2.2.1 2 t = 96 then jb_Checker_checkFunctions_2 fu m (nI (k + 1)) u else some (.inr 0, u) := fun m k t ht => by
    have hk := yl_lt ht
    conv => lhs; unfold jb_Checker_checkFunctions_2
    simp only [xs_let]
    rw [h10, if_neg (nI_ge (by omega) (by omega)), hh_ix (by omega), nI_clamp (by omega), hF k t (by omega) ht]
    unfold fm_Types_is
    rw [hT.1]
    by_cases z : T.length ≤ t
    · rw [if_pos ((hyc t).mpr z), ys_seq, n0, ys_tryr, if_pos z]
    · rw [if_neg (fun y => z ((hyc t).mp y)), if_neg z, yn_cs (by omega), hh_ix (by omega), nI_clamp (by omega)]
      by_cases z2 : u.2.2.1 2 t = 96
      · rw [if_pos z2, if_pos z2, ys_seq, n1, ys_tryl, nI_1]
      · rw [if_neg z2, if_neg z2, ys_seq, n0, ys_tryr]
  have hfnI : ∀ (k t : Nat), F[k]? = some t → (yv_fn T t ↔ ¬ T.length ≤ t ∧ u.2.2.1 2 t = 96) := fun k t ht => by
    constructor
    · intro ⟨c, hc, h96⟩
      have := yl_lt hc
      refine ⟨by omega, ?_⟩
      rw [(hT.2.2 t c hc).1.1, h96]; rfl
    · intro ⟨h1, h2⟩
      obtain ⟨c, hc⟩ := yl_get (l := T) (k := t) (by omega)
      obtain ⟨ty, tg⟩ := hT.2.2 t c hc
      refine ⟨c, hc, Classical.byContradiction fun hn => yg_96 tg hn ?_⟩
      rw [← ty.1]; exact h2
  unfold fm_Checker_checkFunctions
  by_cases hall : ∀ (k : Nat) t, F[k]? = some t → yv_fn T t
  · obtain ⟨e1, e2⟩ := hend hall (fu - F.length - 1)
    have hgo : ∀ (d k m : Nat), k + d = F.length → jb_Checker_checkFunctions_2 fu (m + d) (nI k) u = jb_Checker_checkFunctions_2 fu m (nI F.length) u := by
      intro d
      induction d with
      | zero => intro k m h; rw [show k = F.length by omega]; rfl
      | succ d ih =>
        intro k m h
        obtain ⟨t, ht⟩ := yl_get (l := F) (k := k) (by omega)
        have := (hfnI k t ht).mp (hall k t ht)
        rw [show m + (d + 1) = (m + d) + 1 by omega, hstp (m + d) k t ht, if_neg this.1, if_pos this.2]
        exact ih (k + 1) m (by omega)
    have hg := hgo F.length 0 (fu - F.length - 1 + 1) (by omega)
    rw [show fu - F.length - 1 + 1 + F.length = fu by omega] at hg
    have hg : jb_Checker_checkFunctions_2 fu fu 0 u = _ := hg
    rw [hg]
    exact ⟨fun h => e1 h.2, fun h => e2 fun z => h ⟨hall, z⟩⟩
  · refine ⟨fun h => absurd h.1 hall, fun _ => ?_⟩
    have := yb_all (N := F.length) (fun k => ∀ t, F[k]? = some t → yv_fn T t) (fun m k => jb_Checker_checkFunctions_2 fu (m + 1) (nI k) u) (jb_Checker_checkFunctions_2 fu 1 (nI F.length) u) (some (.inr 0, u))
    -- the first one that is wrong
    have hlp : ∀ (d k m : Nat), k + d = F.length → d < m → (∃ j t, k ≤ j ∧ F[j]? = some t ∧ ¬ yv_fn T t) → jb_Checker_checkFunctions_2 fu m (nI k) u = some (.inr 0, u) := by
      intro d
      induction d with
      | zero =>
        intro k m h1 h2 ⟨j, t, h3, h4, h5⟩
        have := yl_lt h4
        omega
      | succ d ih =>
        intro k m h1 h2 ⟨j, t, h3, h4, h5⟩
        obtain ⟨m, rfl⟩ : ∃ n, m = n + 1 := ⟨m - 1, by omega⟩
        obtain ⟨t', ht'⟩ := yl_get (l := F) (k := k) (by omega)
        rw [hstp m k t' ht']
        by_cases z : T.length ≤ t'
        · rw [if_pos z]
        · rw [if_neg z]
          by_cases z2 : u.2.2.1 2 t' = 96
          · rw [if_pos z2]
            refine ih (k + 1) m (by omega) (by omega) ⟨j, t, ?_, h4, h5⟩
            by_cases hjk : j = k
            · subst hjk
              rw [ht'] at h4; cases h4
              exact absurd ((hfnI _ _ ht').mpr ⟨z, z2⟩) h5
            · omega
          · rw [if_neg z2]
    refine hlp F.length 0 fu (by omega) (by omega) (Classical.byContradiction fun hno => hall fun k t ht => Classical.byContradiction fun hn => hno ⟨k, t, Nat.zero_le _, ht, hn⟩)
end
