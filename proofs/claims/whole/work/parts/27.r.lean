section
variable {α β γ δ : Type} {B : Nat → Int32} {u v w : xk_St} {L lim p q fu D len : Nat} {e : Int32} {T : List (Nat × List Nat × List Nat)} {S : Nat → Option (Nat × Nat)} {g : Nat → Nat}
/-- the exports are taken down -/
theorem mm_exports {l : List ((Nat × Nat) × Nat × Nat)} {nf nt nm ng : Nat} (hfu : 8200 ≤ fu) (hX : yX B (yp_exp B) (S 7) l) (hB : yB B len S u) (h7 : u.1 7 = 0) (h13 : u.1 13 = nI nf) (h14 : u.1 14 = nI nt) (h15 : u.1 15 = nI nm) (h18 : u.1 18 = nI ng) (hn : nf ≤ 64 ∧ nt ≤ 1 ∧ nm ≤ 1 ∧ ng ≤ 64) :
    ∃ v, fm_Model_exportRow fu u = some ((), v) ∧ v.1 6 = 0 ∧ yf_fr [4, 5, 6, 7, 19] [] [16, 17, 18, 19] [] u v ∧ (((l.length ≤ 64 ∧ ∀ (k : Nat) a, l[k]? = some a → yv_exp B l nf nt nm ng k a) ∧ v.1 7 = 0 ∧ v.1 19 = nI l.length ∧ yn_m l l.length v ∧ ∀ (k : Nat) a, l[k]? = some a → v.2.2.1 18 k = nI a.2.1 ∧ v.2.2.1 19 k = nI a.2.2) ∨ (¬ (l.length ≤ 64 ∧ ∀ (k : Nat) a, l[k]? = some a → yv_exp B l nf nt nm ng k a) ∧ v.1 7 = 1)) := by
  unfold fm_Model_exportRow
  simp only [xs_let]
  have hB2 : yB B len S (xs_I u 19 0) := hB
  obtain ⟨w, q, e, r1, r2, r3, r4, r5⟩ := mm_rowOf (fu := fu) (id := 7) (by omega) (by decide) (fun _ => yp_exp_eats) (fun _ _ _ h => yl_exp h) hX hB2 h7
  have r1' : fm_Model_rowOf fu 7 (xs_I u 19 0) = _ := r1
  rw [r1', ys_seq]
  have wfr : yf_fr [4, 5, 6, 7, 19] [] [16, 17, 18, 19] [] u w := yf_trans (yf_I yf_refl (by decide)) (yf_mono r2 (by decide))
  have w6 : w.1 6 = 0 := (r2.1 6 (by decide)).trans hB.2.2.2.2.2
  by_cases hl64 : l.length ≤ 64
  · rw [if_pos hl64] at r3 ⊢
    have := mt_loop (B := B) (len := len) (l := l) (it := yp_exp B len) (fun k a => yv_exp B l nf nt nm ng k a) (fun k v => yf_fr [4, 5, 6, 7, 19] [] [16, 17, 18, 19] [] u v ∧ v.1 19 = nI k ∧ yn_m l k v ∧ ∀ (i : Nat) a, i < k → l[i]? = some a → v.2.2.1 18 i = nI a.2.1 ∧ v.2.2.1 19 i = nI a.2.2) (fun v => yf_fr [4, 5, 6, 7, 19] [] [16, 17, 18, 19] [] u v) (fun m k v => jb_Model_exportRow_14 fu m (nI l.length) (nI k) v) (fun v => some ((), v)) (fun m v => ?_) (fun m k v hk hv => ?_) (fun m k a p q v hl hp hv v6 v7 hI => ?_) l.length 0 q e fu w (by omega) (by omega) (by rw [List.drop_zero]; exact r5) r4 w6 r3 ⟨wfr, (r2.1 19 (by decide)).trans rfl, fun j d hj => by omega, fun j d hj => by omega⟩
    · obtain ⟨v, g1, g2, g3⟩ := this
      have g1' : jb_Model_exportRow_14 fu fu (nI l.length) 0 w = _ := g1
      refine ⟨v, g1', g2, ?_⟩
      rcases g3 with ⟨c1, c2, c3, -⟩ | ⟨⟨j, x, c1, c1'⟩, c2, c3⟩
      · exact ⟨c3.1, Or.inl ⟨⟨hl64, fun k c hc => c1 k c (Nat.zero_le _) hc⟩, c2, c3.2.1, c3.2.2.1, fun k t ht => c3.2.2.2 k t (yl_lt ht) ht⟩⟩
      · exact ⟨c3, Or.inr ⟨fun z => c1' (z.2 j x c1), c2⟩⟩
    · show jb_Model_exportRow_14 fu (m + 1) (nI l.length) (nI l.length) v = _
      unfold jb_Model_exportRow_14
      simp only [xs_let]
      rw [if_pos (Int32.le_refl _)]
    · show jb_Model_exportRow_14 fu (m + 1) (nI l.length) (nI k) v = _
      unfold jb_Model_exportRow_14
      simp only [xs_let]
      rw [if_neg (show ¬ v.1 7 = 0 by rw [hv]; decide)]
      split <;> rfl
    · have hk := yl_lt hl
      obtain ⟨i1, i2, i3, i4⟩ := hI
      obtain ⟨hb1, hb2, hb3⟩ := yp_exp_b hp
      obtain ⟨qn, q1, p1, hp⟩ := yp_thenI hp
      obtain ⟨n, q0, p0, p1⟩ := yp_thenI p1
      have hnb := yp_Nb p0
      have hq1 : n ≤ len - q0 ∧ qn = (q0, n) ∧ q1 = q0 + n := by
        by_cases z : n ≤ len - q0
        · rw [if_pos z] at p1; cases p1; exact ⟨z, rfl, rfl⟩
        · rw [if_neg z] at p1; cases p1
      obtain ⟨hnl, rfl, rfl⟩ := hq1
      obtain ⟨kd, q2, p2, hp⟩ := yp_thenI hp
      obtain ⟨⟨kd, hkd, rfl⟩, hq2, hlt⟩ := yp_bb p2
      by_cases z3 : nI kd ≤ 3
      · rw [if_pos z3] at hp
        obtain ⟨num, q3, p3, hp⟩ := yp_thenI hp
        have ha := Sum.inl.inj hp
        injection ha with ha1 ha2
        rw [nI_clamp (show kd < 2 ^ 31 by omega)] at ha1
        subst ha1
        have hb1 : q0 + n ≤ len := hb1
        have hb2 : kd ≤ 3 := hb2
        have hb3 : num < 2 ^ 32 := hb3
        have hnum := yp_Nb p3
        have hv8 := hv.2.2.2.2
        have hst1 : ym_st B len (q0 + n) (xs_I (xs_A (xs_A (xs_I v 4 (nI q0)) 17 k (nI n)) 16 k (nI q0)) 4 (nI (q0 + n))) := ⟨hv.1, rfl, hv.2.2.1, by omega, hv8⟩
        have hst2 : ym_st B len q2 (xs_A (xs_I (xs_I (xs_A (xs_A (xs_I v 4 (nI q0)) 17 k (nI n)) 16 k (nI q0)) 4 (nI (q0 + n))) 4 (nI q2)) 18 k (nI kd)) := ⟨hv.1, rfl, hv.2.2.1, by omega, hv8⟩
        -- the state behind the reading
        obtain ⟨y, hy⟩ : ∃ y, y = xs_I (xs_A (xs_I (xs_I (xs_A (xs_A (xs_I v 4 (nI q0)) 17 k (nI n)) 16 k (nI q0)) 4 (nI (q0 + n))) 4 (nI q2)) 18 k (nI kd)) 4 (nI q3) := ⟨_, rfl⟩
        have yst : ym_st B len q y := by
          rw [hy, ← ha2]
          exact ⟨hv.1, rfl, hv.2.2.1, by omega, hv8⟩
        have yfr : yf_fr [4, 5, 6, 7, 19] [] [16, 17, 18, 19] [] u y := by
          rw [hy]
          exact yf_I (yf_A (yf_I (yf_I (yf_A (yf_A (yf_I i1 (by decide)) (by decide)) (by decide)) (by decide)) (by decide)) (by decide)) (by decide)
        have y6 : y.1 6 = 0 := by rw [hy]; exact v6
        have y19 : y.1 19 = nI k := by rw [hy]; exact i2
        have yA16 : y.2.2.1 16 = upd (v.2.2.1 16) k (nI q0) := by rw [hy]; rfl
        have yA17 : y.2.2.1 17 = upd (v.2.2.1 17) k (nI n) := by rw [hy]; rfl
        have yA18 : y.2.2.1 18 = upd (v.2.2.1 18) k (nI kd) := by rw [hy]; rfl
        have yA19 : y.2.2.1 19 = v.2.2.1 19 := by rw [hy]; rfl
        have y13 : y.1 13 = nI nf := (yfr.1 13 (by decide)).trans h13
        have y14 : y.1 14 = nI nt := (yfr.1 14 (by decide)).trans h14
        have y15 : y.1 15 = nI nm := (yfr.1 15 (by decide)).trans h15
        have y18 : y.1 18 = nI ng := (yfr.1 18 (by decide)).trans h18
        have yN : yn_m l (k + 1) y := fun j b hj hb => by
          rw [yA16, yA17]
          by_cases z : j = k
          · subst z
            rw [hl] at hb; cases hb
            exact ⟨ya_t, ya_t, by omega⟩
          · rw [ya_j z, ya_j z]; exact i3 j b (by omega) hb
        have hstp : jb_Model_exportRow_14 fu (m + 1) (nI l.length) (nI k) v = jb_Model_exportRow_147 fu (jb_Model_exportRow_14 fu m) (nI l.length) (nI k) (lN num) (nI (ye_bound nf nt nm ng kd)) y := by
          conv => lhs; unfold jb_Model_exportRow_14
          simp only [xs_let]
          rw [if_neg (nI_ge (by omega) (by omega)), if_pos v7, mk_N (by omega) hv v6 p0, ys_seq]
          simp only [ie64 (show k < 64 by omega), nI_clamp (show k < 2 ^ 31 by omega), lN_i]
          have i2' : ∀ {β : Type} (o : Option (β × xk_St)), (if nI k < 0 ∨ 64 ≤ k then none else o) = o := fun o => if_neg fun z => z.elim (nI_pos (by omega)) (by omega)
          simp only [i2']
          have e4 : (xs_A (xs_I v 4 (nI q0)) 17 k (nI n)).1 4 = nI q0 := rfl
          rw [e4]
          have e5 : (xs_A (xs_A (xs_I v 4 (nI q0)) 17 k (nI n)) 16 k (nI q0)).1 4 = nI q0 := rfl
          have e6 : (xs_A (xs_A (xs_I v 4 (nI q0)) 17 k (nI n)) 16 k (nI q0)).2.2.1 17 k = nI n := ya_t
          rw [e5, e6, nI_add, mk_one hst1 v6 p2, ys_seq, mk_N (by omega) hst2 v6 p3, ys_seq, ← hy]
          have e18 : y.2.2.1 18 k = nI kd := by rw [yA18, ya_t]
          rw [e18, y13, y14, y15, y18]
          have hn2 : nt = 0 ∨ nt = 1 := by omega
          have hn3 : nm = 0 ∨ nm = 1 := by omega
          have : kd = 0 ∨ kd = 1 ∨ kd = 2 ∨ kd = 3 := by omega
          rcases this with z | z | z | z <;> rw [z]
          · rfl
          · rcases hn2 with z2 | z2 <;> rw [z2] <;> rfl
          · rcases hn3 with z2 | z2 <;> rw [z2] <;> rfl
          · rfl
        show ∃ v', jb_Model_exportRow_14 fu (m + 1) (nI l.length) (nI k) v = _ ∧ _
        rw [hstp]
        have h171 : ∀ s : Int32, (s = 0 ∨ s = 1) → jb_Model_exportRow_171 fu (jb_Model_exportRow_14 fu m) (nI l.length) (nI k) (lN num) s y = jb_Model_exportRow_14 fu m (nI l.length) (nI (k + 1)) (xs_I (xs_A (xs_I y 7 s) 19 k (nI num)) 19 (nI (k + 1))) := fun s hs => by
          unfold jb_Model_exportRow_171
          simp only [xs_let]
          have e19 : (xs_A (xs_I y 7 s) 19 k (nI num)).1 19 = nI k := y19
          rw [if_pos hs, ie64 (by omega), nI_clamp (by omega), lN_i, e19, nI_1]
        have zfr : ∀ s : Int32, yf_fr [4, 5, 6, 7, 19] [] [16, 17, 18, 19] [] u (xs_I (xs_A (xs_I y 7 s) 19 k (nI num)) 19 (nI (k + 1))) := fun s => yf_I (yf_A (yf_I yfr (by decide)) (by decide)) (by decide)
        unfold jb_Model_exportRow_147 jb_Model_exportRow_166
        have hbd : ye_bound nf nt nm ng kd ≤ 64 := by unfold ye_bound; split <;> (try split) <;> (try split) <;> omega
        have hcmp : (nI (ye_bound nf nt nm ng kd)).toInt64 ≤ lN num ↔ ye_bound nf nt nm ng kd ≤ num := by
          rw [nI_toL (by omega), pk_lLE (by omega) (by omega)]
        by_cases z : ye_bound nf nt nm ng kd ≤ num
        · rw [if_pos (hcmp.mpr z), h171 1 (Or.inr rfl)]
          exact ⟨_, rfl, y6, Or.inr ⟨fun h => by have h1 : num < ye_bound nf nt nm ng kd := h.1; omega, rfl, zfr 1⟩⟩
        · rw [if_neg (fun y => z (hcmp.mp y))]
          obtain ⟨g1, g2⟩ := mm_again (fu := fu) (l := l) (k := k) (u := y) hfu (by omega) yN hl yst.1
          by_cases hnm : ∀ (j : Nat) b, j < k → l[j]? = some b → ¬ ye_same B ((q0, n), kd, num) b
          · rw [g1 hnm, ys_seq, if_pos rfl, h171 0 (Or.inl rfl)]
            refine ⟨_, rfl, y6, Or.inl ⟨⟨show num < ye_bound nf nt nm ng kd by omega, hnm⟩, rfl, ⟨yst.1, yst.2.1, yst.2.2.1, yst.2.2.2⟩, zfr 0, ys_Ig, yN, fun i b hi hb => ?_⟩⟩
            show y.2.2.1 18 i = _ ∧ upd (y.2.2.1 19) k (nI num) i = _
            rw [yA18, yA19]
            by_cases z : i = k
            · subst z
              rw [hl] at hb; cases hb
              exact ⟨ya_t, ya_t⟩
            · rw [ya_j z, ya_j z]; exact i4 i b (by omega) hb
          · rw [g2 hnm, ys_seq, if_neg (show ¬ (1 : Int32) = 0 by decide), h171 1 (Or.inr rfl)]
            exact ⟨_, rfl, y6, Or.inr ⟨fun h => hnm h.2, rfl, zfr 1⟩⟩
      · rw [if_neg z3] at hp; cases hp
  · rw [if_neg hl64] at r3 ⊢
    refine ⟨w, ?_, w6, wfr, Or.inr ⟨fun z => hl64 z.1, r3⟩⟩
    obtain ⟨f, hf⟩ : ∃ m, fu = m + 1 := ⟨fu - 1, by omega⟩
    conv => lhs; rw [hf]
    unfold jb_Model_exportRow_14
    simp only [xs_let]
    rw [if_pos (Int32.le_refl _)]
/-- the first function as it must be -/
def yv_first (T : List (Nat × List Nat × List Nat)) (F : List Nat) (n : Option Nat) : Prop := ∀ f, n = some f → ∃ (t : Nat) (c : Nat × List Nat × List Nat), F[f]? = some t ∧ T[t]? = some c ∧ c.2.1.length = 0 ∧ c.2.2.length = 0
def yst_m (n : Option Nat) : Int32 := match n with
  | none => -1
  | some m => nI m
theorem mm_first {n : Option Nat} {F : List Nat} (hfu : 100 ≤ fu) (hX : yX8 B (S 8) n) (hB : yB B len S u) (h7 : u.1 7 = 0) (hT : yTM T u) (h13 : u.1 13 = nI F.length) (hF64 : F.length ≤ 64) (hF : ∀ (k : Nat) t, F[k]? = some t → u.2.2.1 9 k = nI t ∧ yv_fn T t) :
    ∃ v, fm_Model_firstFunction fu u = some ((), v) ∧ v.1 6 = 0 ∧ yf_fr [4, 5, 7, 20] [] [] [] u v ∧ ((yv_first T F n ∧ v.1 7 = 0 ∧ v.1 20 = yst_m n) ∨ (¬ yv_first T F n ∧ v.1 7 = 1)) := by
  obtain ⟨b1, b2, b3, b4, b5, b6⟩ := hB
  have hS := b4 8 (by decide) (by decide)
  have h64T := hT.2.1.1
  unfold fm_Model_firstFunction
  simp only [xs_let]
  rw [if_neg (show ¬ ((8 : Int32) < 0 ∨ 12 ≤ (8 : Int32).toNatClampNeg) by decide)]
  cases hs : S 8 with
  | none =>
    rw [hs] at hX hS
    have hn : n = none := hX
    subst hn
    have ha : (xs_I u 20 (-1)).2.2.1 2 (8 : Int32).toNatClampNeg = -1 := hS
    rw [ha, if_neg nI_neg1']
    exact ⟨_, rfl, b6, yf_I yf_refl (by decide), Or.inl ⟨fun f hf => (by cases hf), h7, rfl⟩⟩
  | some x =>
    obtain ⟨p, e⟩ := x
    rw [hs] at hX hS
    obtain ⟨x1, x2, m, rfl, x3⟩ := hX
    have hel := b5 8 (p, e) hs
    have hel : e ≤ len := hel
    have hm := yl_N (B := B) (p := p) hel _ x3
    have hmb := yp_Nb hm
    have ha : (xs_I u 20 (-1)).2.2.1 2 (8 : Int32).toNatClampNeg = nI p := hS
    rw [ha, if_pos (show (0 : Int32) ≤ nI p from nI_le (a := 0) (Nat.zero_le _) (by omega)), if_neg (show ¬ ((8 : Int32) < 0 ∨ 12 ≤ (8 : Int32).toNatClampNeg) by decide)]
    have hst : ym_st B len p (xs_I (xs_I (xs_I u 20 (-1)) 4 (nI p)) 5 ((xs_I (xs_I u 20 (-1)) 4 (nI p)).1 3)) := ⟨b1, rfl, b2, by omega, b3⟩
    rw [mk_N (by omega) hst b6 hm, ys_seq]
    obtain ⟨y, hy⟩ : ∃ y, y = xs_I (xs_I (xs_I (xs_I u 20 (-1)) 4 (nI p)) 5 ((xs_I (xs_I u 20 (-1)) 4 (nI p)).1 3)) 4 (nI e) := ⟨_, rfl⟩
    rw [← hy]
    have yfr : yf_fr [4, 5, 7, 20] [] [] [] u y := by rw [hy]; exact yf_I (yf_I (yf_I (yf_I yf_refl (by decide)) (by decide)) (by decide)) (by decide)
    have y13 : y.1 13 = nI F.length := (yfr.1 13 (by decide)).trans h13
    have y6 : y.1 6 = 0 := (yfr.1 6 (by decide)).trans b6
    rw [y13, nI_toL (by omega)]
    unfold jb_Model_firstFunction_56 jb_Model_firstFunction_102
    simp only [xs_let, if_true, or_true, true_or]
    have hlt : lN m < lN F.length ↔ m < F.length := pk_lLT (by omega) (by omega)
    by_cases hf : m < F.length
    · rw [if_pos (hlt.mpr hf), if_pos ys_Ig, lN_i]
      obtain ⟨t, ht⟩ := yl_get (l := F) hf
      obtain ⟨a9, c, hc, h96⟩ := hF m t ht
      obtain ⟨ty, tg, tv⟩ := hT.2.2.1 t c (yl_lt hc) hc
      have htl := yl_lt hc
      have e20 : (xs_I (xs_I y 7 0) 20 (nI m)).1 20 = nI m := rfl
      rw [e20, ie64 (by omega), nI_clamp (by omega)]
      have e9 : (xs_I (xs_I y 7 0) 20 (nI m)).2.2.1 9 m = nI t := by
        show y.2.2.1 9 m = _
        rw [yfr.2.2.1 9 (by decide)]; exact a9
      rw [e9, ie64 (by omega), ie64 (by omega), nI_clamp (by omega)]
      have e5 : (xs_I (xs_I y 7 0) 20 (nI m)).2.2.1 5 t = nI c.2.1.length := by
        show y.2.2.1 5 t = _
        rw [yfr.2.2.1 5 (by decide)]; exact ty.2.1
      have e6 : (xs_I (xs_I y 7 0) 20 (nI m)).2.2.1 6 t = nI c.2.2.length := by
        show y.2.2.1 6 t = _
        rw [yfr.2.2.1 6 (by decide), ty.2.2.1, if_pos h96]
      rw [e5, e6]
      have l1 := tv.1
      have l2 := tv.2.1 h96
      have c1 : (0 : Int32) < nI c.2.1.length ↔ 0 < c.2.1.length := nI_ltI (a := 0) (by decide) (by omega)
      have c2 : nI c.2.2.length ≤ (0 : Int32) ↔ c.2.2.length ≤ 0 := nI_leI (b := 0) (by omega) (by decide)
      have zfr : ∀ s, yf_fr [4, 5, 7, 20] [] [] [] u (xs_I (xs_I (xs_I y 7 0) 20 (nI m)) 7 s) := fun s => yf_I (yf_I (yf_I yfr (by decide)) (by decide)) (by decide)
      by_cases k1 : 0 < c.2.1.length
      · rw [if_pos (c1.mpr k1)]
        refine ⟨_, rfl, y6, zfr 1, Or.inr ⟨fun h => ?_, rfl⟩⟩
        obtain ⟨t', c', d1, d2, d3, d4⟩ := h m rfl
        rw [ht] at d1; cases d1
        rw [hc] at d2; cases d2
        omega
      · rw [if_neg (fun z => k1 (c1.mp z))]
        by_cases k2 : c.2.2.length ≤ 0
        · rw [if_pos (c2.mpr k2)]
          exact ⟨_, rfl, y6, zfr 0, Or.inl ⟨fun f hf => by cases hf; exact ⟨t, c, ht, hc, by omega, by omega⟩, rfl, rfl⟩⟩
        · rw [if_neg (fun z => k2 (c2.mp z))]
          refine ⟨_, rfl, y6, zfr 1, Or.inr ⟨fun h => ?_, rfl⟩⟩
          obtain ⟨t', c', d1, d2, d3, d4⟩ := h m rfl
          rw [ht] at d1; cases d1
          rw [hc] at d2; cases d2
          omega
    · rw [if_neg (fun z => hf (hlt.mp z)), if_neg (show ¬ (xs_I y 7 1).1 7 = 0 by rw [ys_Ig]; decide)]
      refine ⟨_, rfl, y6, yf_I yfr (by decide), Or.inr ⟨fun h => ?_, rfl⟩⟩
      obtain ⟨t', c', d1, -⟩ := h m rfl
      have := yl_lt d1
      omega
/-- data: there must be a memory -/
theorem mm_data {l : List (Int64 × Nat × Nat)} {nm : Nat} (hfu : 100 ≤ fu) (hX : yX B (yp_da B) (S 11) l) (hB : yB B len S u) (h7 : u.1 7 = 0) (h15 : u.1 15 = nI nm) (hnm : nm ≤ 1) :
    ∃ v, fm_Model_dataRow fu u = some ((), v) ∧ yf_fr [4, 5, 7] [] [] [] u v ∧ (((l.length ≤ 64 ∧ (l.length = 0 ∨ nm = 1)) ∧ v.1 7 = 0) ∨ (¬ (l.length ≤ 64 ∧ (l.length = 0 ∨ nm = 1)) ∧ v.1 7 = 1)) := by
  unfold fm_Model_dataRow
  obtain ⟨w, q, e, r1, r2, r3, r4, r5⟩ := mm_rowOf (fu := fu) (id := 11) hfu (by decide) (fun _ => yp_da_eats) (fun _ _ _ h => yl_da h) hX hB h7
  have r1' : fm_Model_rowOf fu 11 u = _ := r1
  rw [r1', ys_seq]
  unfold jb_Model_dataRow_26
  simp only [xs_let]
  have wfr : ∀ s, yf_fr [4, 5, 7] [] [] [] u (xs_I w 7 s) := fun s => yf_I r2 (by decide)
  by_cases h64 : l.length ≤ 64
  · rw [if_pos h64] at r3
    rw [if_pos r3, if_pos h64]
    have c2 : nI l.length ≤ (0 : Int32) ↔ l.length ≤ 0 := nI_leI (b := 0) (by omega) (by decide)
    by_cases k2 : l.length ≤ 0
    · rw [if_pos (c2.mpr k2)]
      exact ⟨_, rfl, wfr 0, Or.inl ⟨⟨h64, Or.inl (by omega)⟩, rfl⟩⟩
    · rw [if_neg (fun z => k2 (c2.mp z)), show w.1 15 = nI nm from (r2.1 15 (by decide)).trans h15]
      have c3 : nI nm = (0 : Int32) ↔ nm = 0 := nI_eq (b := 0) (by omega) (by decide)
      by_cases k3 : nm = 0
      · rw [if_pos (c3.mpr k3)]
        exact ⟨_, rfl, wfr 1, Or.inr ⟨fun h => by have := h.2; omega, rfl⟩⟩
      · rw [if_neg (fun z => k3 (c3.mp z))]
        exact ⟨_, rfl, wfr 0, Or.inl ⟨⟨h64, Or.inr (by omega)⟩, rfl⟩⟩
  · rw [if_neg h64] at r3
    rw [if_neg (show ¬ w.1 7 = 0 by rw [r3]; decide)]
    exact ⟨_, rfl, wfr 1, Or.inr ⟨fun h => h64 h.1, rfl⟩⟩
end
