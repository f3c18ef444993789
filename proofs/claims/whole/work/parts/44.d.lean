section
variable {α β γ δ σ τ : Type} {B : Nat → Int32} {u v w u' v' u0 v0 u1 v1 uh um uc um1 v8 : xk_St} {T : List (Nat × List Nat × List Nat)} {F : List Nat} {G : List (Nat × Nat × Nat × Int64)} {n fu p q k j d b g m i t sz ix tc mc D len : Nat} {H H' : rH} {z h : Nat → Nat} {S : Nat → Option (Nat × Nat)} {l4 l5 : List (Nat × Option Nat)} {l7 : List ((Nat × Nat) × Nat × Nat)} {n8 : Option Nat} {l9 : List (Int64 × List Nat)} {l10 : List sBo} {l11 : List (Int64 × Nat × Nat)} {LL : Nat → List Nat} {AA : Nat → sBo} {tt : Nat → Nat}
/-- pages that a memory begins with -/
theorem hi_pages (hV : yv_lim 16 l5) (hC : w.1 12 = nI l5.length ∧ yi_rows (fun v k (a : Nat × Option Nat) => v.2.2.1 19 k = nI (yn_c a.1) ∧ v.2.2.1 20 k = nI (yl_2 a.2)) l5 w) (h33 : w.1 33 = 0) (h34 : w.1 34 = 0) : ∃ u1, (if (w.1 12) = (1 : Int32) then ((if (0 : Int32) < 0 ∨ 65 ≤ (0 : Int32).toNatClampNeg then none else if (0 : Int32) < 0 ∨ 65 ≤ (0 : Int32).toNatClampNeg then none else xs_seq (fm_Memory_begin (w.2.2.1 19 (0 : Int32).toNatClampNeg) (w.2.2.1 20 (0 : Int32).toNatClampNeg) w) fun _ u6 => jb_Machine_begin_123 fu u6)) else (jb_Machine_begin_123 fu w)) = jb_Machine_begin_123 fu u1 ∧ yf_fr [33, 34] [] [] [] w u1 ∧ u1.1 33 = nI (yc_least l5) ∧ u1.1 34 = nI (yc_most l5) ∧ yc_least l5 ≤ yc_most l5 ∧ yc_most l5 ≤ 16 := by
  have z0 : (0 : Int32).toNatClampNeg = 0 := by decide
  cases hl : l5 with
  | nil =>
    rw [hl] at hC
    refine ⟨w, ?_, yf_refl, h33, h34, Nat.le_refl _, Nat.zero_le _⟩
    rw [hC.1, if_neg (by decide)]
  | cons a r =>
    rw [hl] at hC hV
    have hr : r = [] := by
      have := hV.1
      rw [List.length_cons] at this
      exact List.eq_nil_of_length_eq_zero (by omega)
    subst hr
    obtain ⟨h1, h2⟩ := hV.2 a rfl
    obtain ⟨c1, c2⟩ := hC.2 0 a (by decide) rfl
    have e34 : (if (16 : Int32) < nI (yl_2 a.2) then (16 : Int32) else nI (yl_2 a.2)) = nI (yc_most [a]) ∧ yc_least [a] ≤ yc_most [a] ∧ yc_most [a] ≤ 16 := by
      show _ = nI (match a.2 with
        | none => 16
        | some y => if y ≤ 16 then y else 16) ∧ a.1 ≤ (match a.2 with
        | none => 16
        | some y => if y ≤ 16 then y else 16) ∧ (match a.2 with
        | none => 16
        | some y => if y ≤ 16 then y else 16) ≤ 16
      cases ha : a.2 with
      | none =>
        refine ⟨?_, h1, Nat.le_refl _⟩
        show (if (16 : Int32) < nI 2147483647 then (16 : Int32) else nI 2147483647) = nI 16
        rw [if_pos (by decide)]; rfl
      | some y =>
        have hy := h2 y ha
        show (if (16 : Int32) < nI (yn_c y) then (16 : Int32) else nI (yn_c y)) = nI (if y ≤ 16 then y else 16) ∧ a.1 ≤ (if y ≤ 16 then y else 16) ∧ (if y ≤ 16 then y else 16) ≤ 16
        by_cases q : y ≤ 16
        · rw [if_pos q, yn_cs (by omega), if_neg (show ¬ (16 : Int32) < nI y from fun t => by have := (nI_ltI (a := 16) (by omega) (by omega)).mp t; omega)]
          exact ⟨rfl, hy, q⟩
        · rw [if_neg q]
          have hyc : 16 < yn_c y ∧ yn_c y < 2 ^ 31 := by
            unfold yn_c
            by_cases t : y < 2147483648
            · rw [if_pos t]; omega
            · rw [if_neg t]; omega
          rw [if_pos (show (16 : Int32) < nI (yn_c y) from (nI_ltI (a := 16) (by omega) (by omega)).mpr hyc.1)]
          exact ⟨rfl, h1, Nat.le_refl _⟩
    refine ⟨xs_I (xs_I w 33 (nI a.1)) 34 (nI (yc_most [a])), ?_, yf_I (yf_I yf_refl (by decide)) (by decide), rfl, rfl, e34.2.1, e34.2.2⟩
    have c1 : w.2.2.1 19 0 = nI a.1 := by rw [c1, yn_cs (by omega)]
    rw [hC.1, if_pos (show nI (a :: ([] : List (Nat × Option Nat))).length = 1 from rfl), z0, if_neg (by decide), if_neg (by decide), c1, c2]
    unfold fm_Memory_begin
    simp only [xs_let]
    rw [ys_seq, e34.1]
/-- an instance begins, by both -/
theorem ld_begin (hfu : 70000 < fu) (hB8 : ∀ i, by8 (B i)) (hn : n ≤ 8192) (hSt : rSt D B n T F l4.length l5.length G z LL AA tt w v8) (hMod : yMod D B S T F l4 l5 G l7 n8 l9 l10 l11) (hV : yVz B T F l4 l5 G l7 n8 l9 l10 l11 z) (hyB : yB B n S v8) (hEM : yEM T F l4 l5 G l7 n8 v8) (hC : ldC T F l4 l5 G l7 n8 l9 l11 w) (hK : ldK uh um B w v8) (h7 : v8.1 7 = 0) : ∃ c u9 v9, (c = 0 ∨ c = 2 ∨ c = 5) ∧ fm_Machine_begin fu (xs_I w 4 1) = some (nI c, u9) ∧ fm_Model_instance fu v8 = jb_Model_instance_288 fu v9 ∧ v9.1 29 = nI c ∧ yf_fr [4, 29, 33, 34] [] [38, 46, 47] [11] w u9 ∧ yf_fr [4, 5, 6, 7, 25, 26, 29, 32, 34] [0] [27, 28, 38] [] v8 v9 ∧ u9.1 4 = 1 ∧ v9.1 25 = 1 ∧ v9.1 26 = 0 ∧ RD T F l4.length [] G u9 v9 := by
  obtain ⟨k1, ⟨k28, k29, k32, k33, k34⟩, k46, ⟨k30, k44, k43⟩, -⟩ := hK
  obtain ⟨q4, q5, q6, q7, q8, ⟨q15, q9⟩, q16, q11⟩ := hC
  obtain ⟨V1, V3, V4, V5, V6, V7, V8, V9⟩ := hV.1
  obtain ⟨M1, M3, M4, M5, M6, M7, M8, M9, M10, M11⟩ := hMod
  have hG64 : G.length ≤ 64 := V6.1
  have h9l : l9.length ≤ 64 := V9.1
  have h11l : l11.length ≤ 64 := hV.2.2.1
  have hw13 : w.1 13 = nI G.length := hSt.2.1.2.2.2.2.2.1
  have hgf : ∀ (k : Nat) a, G[k]? = some a → a.1 < 150 ∧ (a.1 < 16 → a.2.2.1 < 16) := fun k a ha => by
    obtain ⟨⟨g1, g2, g3⟩, -⟩ := yp_gloG M6 k a ha
    refine ⟨g2, fun h16 => ?_⟩
    rcases (V6.2 k a ha).2.2 with t | t | t
    · rcases gl_const M6 k a ha with s | s | s
      · omega
      · omega
      · omega
    · omega
    · omega
  -- globals by the class
  obtain ⟨ua, n', a1, a2, a3, a4⟩ := hi_glob (fu := fu) (u0 := xs_I w 4 1) hG64 q6 hgf hw13 G.length 0 fu (xs_I w 4 1) (by omega) (by omega) k29 yf_refl (fun k a hk => by omega)
  have a3' : yf_fr [4, 29] [] [38] [11] w ua := yf_trans (yf_I yf_refl (by decide)) (yf_mono a3 (by decide))
  -- the table by the class
  obtain ⟨ub, b1, b2, b3, -⟩ := hi_5 (fu := fu) 64 0 fu ua (by omega) (by omega)
  have b2' : yf_fr [4, 29] [] [38, 47] [11] w ub := yf_trans (yf_mono a3' (by decide)) (yf_mono b2 (by decide))
  -- pages by the class
  obtain ⟨uc, c1, c2, c3, c4, c5, c6⟩ := hi_pages (fu := fu) (w := ub) V5 ⟨by rw [b2'.1 12 (by decide)]; exact q5.1, yi_keep q5.2 fun k a hk => by rw [b2'.2.2.1 19 (by decide), b2'.2.2.1 20 (by decide)]; exact hk⟩ (by rw [b2'.1 33 (by decide)]; exact k33) (by rw [b2'.1 34 (by decide)]; exact k34)
  have c2' : yf_fr [4, 29, 33, 34] [] [38, 47] [11] w uc := yf_trans (yf_mono b2' (by decide)) (yf_mono c2 (by decide))
  have eH : fm_Machine_begin fu (xs_I w 4 1) = jb_Machine_begin_123 fu uc := by
    unfold fm_Machine_begin
    have a1' : jb_Machine_begin_2 fu fu 0 (xs_I w 4 1) = _ := a1
    rw [a1']
    unfold jb_Machine_begin_2
    simp only [xs_let]
    have ua13 : ua.1 13 = nI G.length := by rw [a3'.1 13 (by decide)]; exact hw13
    rw [ua13, if_pos (Int32.le_refl _)]
    unfold fm_Arrays_fill_AII__h79
    have b1' : jb_Arrays_fill_AII__h79_5 fu fu (-1) 0 64 ua = some ((), ub) := b1
    rw [b1', ys_seq]
    exact c1
  -- the reference
  obtain ⟨va, d1, d2, d3, -⟩ := mi_12 (fu := fu) 2001 0 fu (xs_I (xs_I (xs_I v8 25 1) 32 0) 34 0) (by omega) (by omega)
  obtain ⟨vb, e1, e2, e3, -⟩ := mi_21 (fu := fu) 65536 0 fu (xs_I (xs_I va 26 0) 29 0) (by omega) (by omega)
  obtain ⟨vc, f1, f2, f3, -⟩ := mi_42 (fu := fu) 64 0 fu vb (by omega) (by omega)
  have f2' : yf_fr [25, 26, 29, 32, 34] [] [27, 28, 38] [] v8 vc := yf_trans (yf_trans (yf_I (yf_I (yf_trans (yf_I (yf_I (yf_I yf_refl (by decide)) (by decide)) (by decide)) (yf_mono d2 (by decide))) (by decide)) (by decide)) (yf_mono e2 (by decide))) (yf_mono f2 (by decide))
  have vc29 : vc.1 29 = 0 := by rw [f2.1 29 (by simp), e2.1 29 (by simp)]; rfl
  have vc25 : vc.1 25 = 1 := by rw [f2.1 25 (by simp), e2.1 25 (by simp)]; show va.1 25 = 1; rw [d2.1 25 (by simp)]; rfl
  have vc26 : vc.1 26 = 0 := by rw [f2.1 26 (by simp), e2.1 26 (by simp)]; rfl
  have vc32 : vc.1 32 = 0 := by rw [f2.1 32 (by simp), e2.1 32 (by simp)]; show va.1 32 = 0; rw [d2.1 32 (by simp)]; rfl
  have vc34 : vc.1 34 = 0 := by rw [f2.1 34 (by simp), e2.1 34 (by simp)]; show va.1 34 = 0; rw [d2.1 34 (by simp)]; rfl
  have vc27 : ∀ i, i < 65536 → vc.2.2.1 27 i = 0 := fun i hi => by rw [f2.2.2.1 27 (by decide)]; exact e3 i (by omega) hi
  have vc38 : ∀ i, i < 2001 → vc.2.2.1 38 i = -1 := fun i hi => by
    rw [f2.2.2.1 38 (by decide), e2.2.2.1 38 (by decide)]
    exact d3 i (by omega) hi
  have eM : fm_Model_instance fu v8 = xs_seq (fm_Model_rowOf fu (9 : Int32) vc) fun a5 u6 => jb_Model_instance_70 fu fu a5 (0 : Int32) u6 := by
    unfold fm_Model_instance fm_Model_noObjects
    simp only [xs_let]
    have d1' : jb_Model_noObjects_12 fu fu 0 (xs_I (xs_I (xs_I v8 25 1) 32 0) 34 0) = some ((), va) := d1
    have e1' : jb_Model_instance_21 fu fu 0 (xs_I (xs_I va 26 0) 29 0) = _ := e1
    have f1' : jb_Model_instance_42 fu fu 0 vb = _ := f1
    rw [d1', ys_seq, e1', f1']
  have hyBc : yB B n S vc := yB_fr hyB f2' (by decide) (by rw [f2'.1 6 (by decide)]; exact hyB.2.2.2.2.2)
  have vc7 : vc.1 7 = 0 := by rw [f2'.1 7 (by decide)]; exact h7
  obtain ⟨vd, qd, ed, g1, g2, g3, g4, g5⟩ := mm_rowOf (fu := fu) (id := 9) (by omega) (by decide) (fun _ => yp_el_eats) (fun _ _ _ h => yl_el h) M9 hyBc vc7
  rw [if_pos V9.1] at g1 g3
  have g1' : fm_Model_rowOf fu 9 vc = _ := g1
  have hdc : yf_fr [4, 5, 7, 25, 26, 29, 32, 34] [] [27, 28, 38] [] v8 vd := yf_trans (yf_mono f2' (by decide)) (yf_mono g2 (by decide))
  have vd29 : vd.1 29 = 0 := by rw [g2.1 29 (by decide)]; exact vc29
  have vd6 : vd.1 6 = 0 := by rw [g2.1 6 (by decide)]; exact hyBc.2.2.2.2.2
  have hT0 : tbE F uc vd := fun i hi => by
    rw [c2.2.2.1 47 (by simp), g2.2.2.1 28 (by simp), b3 i (by omega) hi, f3 i (by omega) hi]
    exact ⟨rfl, Or.inl rfl⟩
  have htp : 0 < l9.length → fm_Mod_tablePlaces uc = some (nI (yc_least l4), uc) := fun hl => by
    have hl4 : l4.length = 1 := by rcases V9.2.1 with t | t; omega; exact t
    obtain ⟨a, ha⟩ : ∃ a, l4[0]? = some a := ⟨_, List.getElem?_eq_getElem (by omega)⟩
    obtain ⟨r1, -⟩ := q4.2 0 a (by decide) ha
    unfold fm_Mod_tablePlaces
    have u11 : uc.1 11 = nI 1 := by rw [c2'.1 11 (by decide), q4.1, hl4]
    rw [u11, if_neg (by decide), if_neg (by decide)]
    have z0 : (0 : Int32).toNatClampNeg = 0 := by decide
    rw [z0, c2'.2.2.1 16 (by decide), r1]
    have h64 := (V4.2 a ha).1
    have : yc_least l4 = a.1 := by unfold yc_least; rw [ha]
    rw [this, yn_cs (by omega)]
  have htp64 : yc_least l4 ≤ 64 := by
    unfold yc_least
    cases ha : l4[0]? with
    | none => exact Nat.zero_le _
    | some a => exact (V4.2 a ha).1
  have vd24 : vd.1 24 = nI (yc_least l4) := by rw [hdc.1 24 (by decide)]; exact hEM.2.2.1.2
  obtain ⟨cE, ue, ve, h1, h2, h3, h4, h5, h6, h7', h8⟩ := hm_elems (fu := fu) (u0 := uc) (v0 := vd) (B := B) (len := n) (F := F) (l9 := l9) (tp := yc_least l4) (by omega) V9.1 V9.2.2 V3.1 (fun k a hk ha => by
    obtain ⟨s, s1, s2, s3, s4, s5⟩ := q9 k a hk ha
    rw [c2'.2.2.1 28 (by decide), c2'.2.2.1 29 (by decide), c2'.2.2.2 8 (by decide), c2'.2.2.1 11 (by decide)]
    exact ⟨s, s1, s2, s3, s4, s5⟩) (by rw [c2'.1 15 (by decide)]; exact q15) htp htp64 vd24 l9.length 0 qd ed fu fu uc vd (by omega) (by omega) (by omega) (by rw [List.drop_zero]; exact g5) (fun t => g4 t) vd6 vd29 yf_refl yf_refl hT0
  have h3' : jb_Model_instance_70 fu fu (nI l9.length) 0 vd = jb_Model_instance_167 fu ve := h3
  have h2' : fm_Machine_placeElements fu uc = some (nI cE, ue) := h2
  rw [eM, g1', ys_seq, h3']
  have hue : yf_fr [4, 29, 33, 34] [] [38, 46, 47] [11] w ue := yf_trans (yf_mono c2' (by decide)) (yf_mono h6 (by decide))
  have hve : yf_fr [4, 5, 6, 7, 25, 26, 29, 32, 34] [0] [27, 28, 38] [] v8 ve := yf_trans (yf_mono hdc (by decide)) (yf_mono h7' (by decide))
  -- what holds whatever came of the elements and the data
  have fin : ∀ (c : Nat) (u9 v9 : xk_St), yf_fr [] [] [46] [] ue u9 → yf_fr [4, 5, 6, 7, 29] [0] [27] [] ve v9 → (∀ i, i < 65536 → u9.2.2.1 46 i = v9.2.2.1 27 i) → (∀ i, 4096 * yc_least l5 ≤ i → i < 65536 → u9.2.2.1 46 i = 0) → yf_fr [4, 29, 33, 34] [] [38, 46, 47] [11] w u9 ∧ yf_fr [4, 5, 6, 7, 25, 26, 29, 32, 34] [0] [27, 28, 38] [] v8 v9 ∧ u9.1 4 = 1 ∧ v9.1 25 = 1 ∧ v9.1 26 = 0 ∧ RD T F l4.length [] G u9 v9 := by
    intro c u9 v9 hu9 hv9 hmem hzero
    have hU : yf_fr [4, 29, 33, 34] [] [38, 46, 47] [11] w u9 := yf_trans hue (yf_mono hu9 (by decide))
    have hV9 : yf_fr [4, 5, 6, 7, 25, 26, 29, 32, 34] [0] [27, 28, 38] [] v8 v9 := yf_trans hve (yf_mono hv9 (by decide))
    have hVd : yf_fr [4, 5, 6, 7, 29] [0] [27, 28] [] vd v9 := yf_trans (yf_mono h7' (by decide)) (yf_mono hv9 (by decide))
    refine ⟨hU, hV9, ?_, ?_, ?_, ?_, ?_, ?_, ?_⟩
    · rw [hu9.1 4 (by simp), h6.1 4 (by simp), c2.1 4 (by decide), b2.1 4 (by simp), a3.1 4 (by decide)]; rfl
    · rw [hVd.1 25 (by decide), g2.1 25 (by decide)]; exact vc25
    · rw [hVd.1 26 (by decide), g2.1 26 (by decide)]; exact vc26
    · refine ⟨⟨?_, ?_, Nat.zero_le _, ?_⟩, (fun k e he => by cases he), (fun k k' e e' he => by cases he), ?_, fun i hi => Or.inr ?_, fun i hi => ?_⟩
      · rw [hU.1 32 (by decide)]; exact k32
      · rw [hVd.1 32 (by decide), g2.1 32 (by decide)]; exact vc32
      · rw [hVd.1 34 (by decide), g2.1 34 (by decide)]; exact vc34
      · obtain ⟨q, q1, q2⟩ := k44
        refine ⟨2000, by rw [hU.1 30 (by decide)]; exact k30, rfl, q, fun i hi => ?_, q2⟩
        obtain ⟨x1, x2, x3⟩ := q1 i hi
        exact ⟨by rw [hU.2.2.1 44 (by decide)]; exact x1, x2, x3, fun k e he => by cases he⟩
      · rw [hVd.2.2.1 38 (by decide), g2.2.2.1 38 (by simp)]; exact vc38 i hi
      · rw [hU.2.2.1 43 (by decide)]; exact k43 i hi
    · refine ⟨?_, fun k a ha => ?_⟩
      · rw [hu9.1 29 (by simp), h6.1 29 (by simp), c2.1 29 (by decide), b2.1 29 (by simp)]; exact a2
      · obtain ⟨x1, x2⟩ := a4 k a ha
        rw [hu9.2.2.2 11 (by simp), h6.2.2.2 11 (by simp), c2.2.2.2 11 (by simp), b2.2.2.2 11 (by simp), hu9.2.2.1 38 (by decide), h6.2.2.1 38 (by decide), c2.2.2.1 38 (by simp), b2.2.2.1 38 (by decide), x1, x2, hV9.2.2.2 2 (by simp), (hEM.2.2.2.2.1.2 k a ha).2.2]
        obtain ⟨⟨g1, g2, g3⟩, -⟩ := yp_gloG M6 k a ha
        have hgl := (V6.2 k a ha).2.2
        by_cases q : a.1 < 16
        · rw [if_pos q, if_pos q]
          rcases gl_const M6 k a ha with ⟨s, s2⟩ | s | ⟨s, -⟩
          · have : a.1 = 1 := by rcases hgl with t | t | t; omega; omega; omega
            rw [this]; exact rv_n1 s2
          · have : a.1 = 2 := by rcases hgl with t | t | t; omega; omega; omega
            rw [this]; exact rv_n2
          · have := (hgf k a ha).2 q
            omega
        · rw [if_neg q, if_neg q]
          refine Or.inr (Or.inr ⟨by omega, g2, Or.inl ⟨rfl, rfl, ?_, Or.inr rfl⟩⟩)
          rcases gl_const M6 k a ha with ⟨s, -⟩ | s | ⟨s, s2⟩
          · rcases hgl with t | t | t <;> omega
          · rcases hgl with t | t | t <;> omega
          · rcases hgl with t | t | t <;> omega
    · refine ⟨hmem, yc_least l5, yc_most l5, ?_, ?_, ?_, ?_, c5, c6, hzero⟩
      · rw [hu9.1 33 (by simp), h6.1 33 (by simp)]; exact c3
      · rw [hV9.1 16 (by decide)]; exact hEM.2.2.2.1.2.1
      · rw [hu9.1 34 (by simp), h6.1 34 (by simp)]; exact c4
      · rw [hV9.1 17 (by decide)]; exact hEM.2.2.2.1.2.2
    · refine ⟨fun i hi => ?_, yc_least l4, htp64, by rw [hV9.1 24 (by decide)]; exact hEM.2.2.1.2, fun t => ?_, fun t => ?_⟩
      · rw [hu9.2.2.1 47 (by decide), hv9.2.2.1 28 (by decide)]; exact h8 i hi
      · have : l4 = [] := List.eq_nil_of_length_eq_zero t
        rw [this]; rfl
      · obtain ⟨a, ha⟩ : ∃ a, l4[0]? = some a := ⟨_, List.getElem?_eq_getElem (by omega)⟩
        obtain ⟨r1, -⟩ := q4.2 0 a (by decide) ha
        have h64 := (V4.2 a ha).1
        have : yc_least l4 = a.1 := by unfold yc_least; rw [ha]
        rw [hU.2.2.1 16 (by decide), r1, this, yn_cs (by omega)]
  have ue46 : ∀ i, i < 65536 → ue.2.2.1 46 i = 0 := fun i hi => by
    rw [h6.2.2.1 46 (by decide), c2'.2.2.1 46 (by decide)]; exact k46 i hi
  have ve27 : ∀ i, i < 65536 → ve.2.2.1 27 i = 0 := fun i hi => by
    rw [h7'.2.2.1 27 (by decide), g2.2.2.1 27 (by simp)]; exact vc27 i hi
  rw [eH]
  unfold jb_Machine_begin_123
  rw [h2', ys_seq]
  rcases h1 with rfl | rfl
  · -- the data
    have hve29 : ve.1 29 = 0 := h4
    have ve7 : ve.1 7 = 0 := by rw [h7'.1 7 (by decide)]; exact g3
    have hyBe : yB B n S ve := by
      refine ⟨by rw [hve.2.2.1 1 (by decide)]; exact hyB.1, by rw [hve.1 3 (by decide)]; exact hyB.2.1, hn, fun j j1 j2 => ?_, hyB.2.2.2.2.1, h5⟩
      rw [hve.2.2.1 2 (by decide)]; exact hyB.2.2.2.1 j j1 j2
    obtain ⟨vf, qf, ef, i1, i2, i3, i4, i5⟩ := mm_rowOf (fu := fu) (id := 11) (by omega) (by decide) (fun _ => yp_da_eats) (fun _ _ _ h => yl_da h) M11 hyBe ve7
    rw [if_pos hV.2.2.1] at i1 i3
    have i1' : fm_Model_rowOf fu 11 ve = _ := i1
    have hvf29 : vf.1 29 = 0 := by rw [i2.1 29 (by decide)]; exact hve29
    have hvf6 : vf.1 6 = 0 := by rw [i2.1 6 (by decide)]; exact h5
    obtain ⟨cD, u9, v9, j1, j2, j3, j4, j5, j6, j7, j8, j9⟩ := hm_data (fu := fu) (u0 := ue) (v0 := vf) (B := B) (len := n) (l11 := l11) (pg := yc_least l5) (by omega) hB8 hn hV.2.2.1 (yi_keep q11 fun k a hk => by
      unfold yi_da at hk ⊢
      rw [hue.2.2.2 9 (by decide), hue.2.2.1 31 (by decide), hue.2.2.1 32 (by decide)]; exact hk) (by rw [hue.2.2.1 1 (by decide)]; exact k1.2.1) (by rw [hue.1 16 (by decide)]; exact q16) (by rw [h6.1 33 (by simp)]; exact c3) (by omega) (by rw [i2.1 16 (by decide), hve.1 16 (by decide)]; exact hEM.2.2.2.1.2.1) l11.length 0 qf ef fu fu ue vf (by omega) (by omega) (by omega) (by rw [List.drop_zero]; exact i5) (fun t => i4 t) hvf6 hvf29 yf_refl yf_refl (fun i hi => by rw [ue46 i hi, i2.2.2.1 27 (by simp), ve27 i hi]) (fun i _ hi => ue46 i hi)
    have j2' : fm_Machine_placeData fu ue = some (nI cD, u9) := j2
    have j3' : jb_Model_instance_187 fu fu (nI l11.length) 0 vf = jb_Model_instance_288 fu v9 := j3
    have ff := fin cD u9 v9 j6 (yf_trans (yf_mono i2 (by decide)) (yf_mono j7 (by decide))) j8 j9
    refine ⟨cD, u9, v9, ?_, ?_, ?_, j4, ff⟩
    · rcases j1 with t | t
      · exact Or.inl t
      · exact Or.inr (Or.inl t)
    · rw [if_pos (show nI 0 = (0 : Int32) from rfl), j2', ys_seq]
    · unfold jb_Model_instance_167 jb_Model_instance_184
      rw [if_pos hve29, i1', ys_seq]
      exact j3'
  · have hne : ¬ ve.1 29 = 0 := by rw [h4]; decide
    refine ⟨5, ue, ve, Or.inr (Or.inr rfl), ?_, ?_, h4, fin 5 ue ve yf_refl yf_refl (fun i hi => by rw [ue46 i hi, ve27 i hi]) (fun i _ hi => ue46 i hi)⟩
    · rw [if_neg (by decide)]
    · rw [mi_167e (by omega) hne]
      unfold jb_Model_instance_288
      rw [if_neg hne]
end
