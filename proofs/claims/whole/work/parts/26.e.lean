section
variable {α β γ δ : Type} {B : Nat → Int32} {u v w : xk_St} {L lim p q fu D : Nat} {e : Int32}
/-- a section that is a row of items: how many, and they -/
def yp_row (B : Nat → Int32) (lim : Nat) (it : Nat → (α × Nat) ⊕ Nat) (p : Nat) : (List α × Nat) ⊕ Nat := yp_then (yp_N B lim p) fun n q => yp_rep it n q
theorem yp_row_len {it : Nat → (α × Nat) ⊕ Nat} {l : List α} (hit : yp_eats lim it) (hp : lim ≤ 8192) (h : yp_row B lim it p = .inl (l, q)) : l.length ≤ 8192 ∧ p < q ∧ q ≤ lim := by
  obtain ⟨n, r, h1, h2⟩ := yp_thenI h
  obtain ⟨-, h3, h4⟩ := yp_Nb h1
  have h5 := yp_rep_eats hit h2
  have h6 := yp_repl h2
  have := h5.2.1 h4
  omega
/-- the class reads a section that is a row -/
theorem hh_row {it : Nat → (α × Nat) ⊕ Nat} {c : Nat} {F : Int32 → xk_St → Option ((Unit ⊕ Nat) × xk_St)} {J : xk_St → List α → xk_St → Prop} (hit : yp_eats lim it) (hfu : 20 ≤ fu) (h : yh_st B lim p u)
    (hc : ∀ q x y, yh_st B lim q (xs_I u 17 y) → yh_st B lim q (xs_I (xs_I u 17 y) c x))
    (hF : ∀ N q r, p < q → yh_st B lim q (xs_I (xs_I u 17 (nI r)) c (nI (yn_c N))) → yC q (F (nI (yn_c N)) (xs_I (xs_I u 17 (nI r)) c (nI (yn_c N)))) (yp_rep it N q) (yJ B lim fun l _ v => J (xs_I (xs_I u 17 (nI r)) c (nI (yn_c N))) l v)) :
    yC p (xs_try (fm_Reader_readNumber fu u) fun a1 u2 => xs_let (xs_I u2 c a1) fun u3 => F a1 u3) (yp_row B lim it p) (yJ B lim fun l _ v => ∃ r, J (xs_I (xs_I u 17 (nI r)) c (nI l.length)) l v) := by
  unfold yp_row
  refine yC_try (yC_of h (hh_N hfu h)) fun N q b w e1 e2 hw e3 => ?_
  obtain ⟨rfl, q', rfl⟩ := e3
  obtain ⟨-, h3, h4⟩ := yp_Nb e1
  simp only [xs_let]
  refine yC_mono (hF N q q' h3 (hc q _ _ hw)) fun l r f1 f2 hj => ?_
  obtain ⟨b, v, g1, g2, g3⟩ := hj
  have hlen := yp_repl f1
  have h5 := yp_rep_eats hit f1
  have h6 := h5.2.1 h4
  have h8 := h.2.2.2.2
  refine ⟨b, v, g1, g2, q', ?_⟩
  rw [hlen, ← yn_cs (show N < 2147483648 by omega)]
  exact g3
theorem yf_ic {c : Nat} {x y : Int32} : yf_fr [17, c] [] [] [] u (xs_I (xs_I u 17 y) c x) := yf_I (yf_I yf_refl (by simp)) (by simp)
theorem ys_c {c : Nat} {x : Int32} : (xs_I u c x).1 c = x := if_pos rfl
theorem hh_s1 (hfu : 20 ≤ fu) (hn : lim + 2 ≤ fu) (h : yh_st B lim p u) : yC p (fm_Reader_readTypes fu u) (yp_row B lim (yp_tf B lim) p) (yJ B lim fun l _ v => yf_fr [7, 17] [] [2, 3, 4, 6] [] u v ∧ v.1 7 = nI l.length ∧ yi_rows yk_ty l v) := by
  unfold fm_Reader_readTypes
  refine yC_mono (hh_row (F := fun a v => jb_Reader_readTypes_15 fu fu a (0 : Int32) v) (J := yi_tys) yp_tf_eats hfu h (fun _ _ _ h => h) (fun N q r _ h2 => hh_types hfu hn h2)) fun l q e1 e2 hj => ?_
  obtain ⟨b, v, g1, g2, r, g3⟩ := hj
  exact ⟨b, v, g1, g2, yf_trans (yf_mono (yf_ic (c := 7)) (by decide)) (yf_mono g3.1 (by decide)), (g3.1.1 7 (by decide)).trans ys_c, g3.2⟩
theorem hh_s3 (hfu : 20 ≤ fu) (hn : lim + 2 ≤ fu) (h : yh_st B lim p u) : yC p (fm_Reader_readFunctions fu u) (yp_row B lim (yp_N B lim) p) (yJ B lim fun l _ v => yf_fr [10, 17] [] [12] [] u v ∧ v.1 10 = nI l.length ∧ yi_rows (fun v k n => v.2.2.1 12 k = nI (yn_c n)) l v) := by
  unfold fm_Reader_readFunctions
  refine yC_mono (hh_row (F := fun a v => jb_Reader_readFunctions_18 fu fu a (0 : Int32) v) (J := fun u l v => yf_fr [17] [] [12] [] u v ∧ yi_rows (fun v k n => v.2.2.1 12 k = nI (yn_c n)) l v) yp_N_eats' hfu h (fun _ _ _ h => h) (fun N q r _ h2 => hh_funs hfu hn h2)) fun l q e1 e2 hj => ?_
  obtain ⟨b, v, g1, g2, r, g3⟩ := hj
  exact ⟨b, v, g1, g2, yf_trans (yf_mono (yf_ic (c := 10)) (by decide)) (yf_mono g3.1 (by decide)), (g3.1.1 10 (by decide)).trans ys_c, g3.2⟩
theorem hh_s4 (hfu : 20 ≤ fu) (hn : lim + 2 ≤ fu) (h : yh_st B lim p u) : yC p (fm_Reader_readTables fu u) (yp_row B lim (yp_tab B lim) p) (yJ B lim fun l _ v => yf_fr [11, 17] [] [16, 17] [] u v ∧ v.1 11 = nI l.length ∧ yi_rows (fun v k (a : Nat × Option Nat) => v.2.2.1 16 k = nI (yn_c a.1) ∧ v.2.2.1 17 k = nI (yl_2 a.2)) l v) := by
  unfold fm_Reader_readTables
  refine yC_mono (hh_row (F := fun a v => jb_Reader_readTables_18 fu fu a (0 : Int32) v) (J := fun u l v => yf_fr [17] [] [16, 17] [] u v ∧ yi_rows (fun v k (a : Nat × Option Nat) => v.2.2.1 16 k = nI (yn_c a.1) ∧ v.2.2.1 17 k = nI (yl_2 a.2)) l v) yp_tab_eats hfu h (fun _ _ _ h => h) (fun N q r _ h2 => hh_tabs hfu hn h2)) fun l q e1 e2 hj => ?_
  obtain ⟨b, v, g1, g2, r, g3⟩ := hj
  exact ⟨b, v, g1, g2, yf_trans (yf_mono (yf_ic (c := 11)) (by decide)) (yf_mono g3.1 (by decide)), (g3.1.1 11 (by decide)).trans ys_c, g3.2⟩
theorem hh_s5 (hfu : 20 ≤ fu) (hn : lim + 2 ≤ fu) (h : yh_st B lim p u) : yC p (fm_Reader_readMemories fu u) (yp_row B lim (yp_limits B lim) p) (yJ B lim fun l _ v => yf_fr [12, 17] [] [19, 20] [] u v ∧ v.1 12 = nI l.length ∧ yi_rows (fun v k (a : Nat × Option Nat) => v.2.2.1 19 k = nI (yn_c a.1) ∧ v.2.2.1 20 k = nI (yl_2 a.2)) l v) := by
  unfold fm_Reader_readMemories
  refine yC_mono (hh_row (F := fun a v => jb_Reader_readMemories_18 fu fu a (0 : Int32) v) (J := fun u l v => yf_fr [17] [] [19, 20] [] u v ∧ yi_rows (fun v k (a : Nat × Option Nat) => v.2.2.1 19 k = nI (yn_c a.1) ∧ v.2.2.1 20 k = nI (yl_2 a.2)) l v) yp_limits_eats' hfu h (fun _ _ _ h => h) (fun N q r _ h2 => hh_mems hfu hn h2)) fun l q e1 e2 hj => ?_
  obtain ⟨b, v, g1, g2, r, g3⟩ := hj
  exact ⟨b, v, g1, g2, yf_trans (yf_mono (yf_ic (c := 12)) (by decide)) (yf_mono g3.1 (by decide)), (g3.1.1 12 (by decide)).trans ys_c, g3.2⟩
theorem hh_s6 (hfu : 20 ≤ fu) (hn : lim + 2 ≤ fu) (h : yh_st B lim p u) : yC p (fm_Reader_readGlobals fu u) (yp_row B lim (yp_glo B lim) p) (yJ B lim fun l _ v => yf_fr [13, 17] [] [21, 22, 23] [6] u v ∧ v.1 13 = nI l.length ∧ yi_rows yi_glo l v) := by
  unfold fm_Reader_readGlobals
  refine yC_mono (hh_row (F := fun a v => jb_Reader_readGlobals_20 fu fu a (0 : Int32) v) (J := fun u l v => yf_fr [17] [] [21, 22, 23] [6] u v ∧ yi_rows yi_glo l v) yp_glo_eats hfu h (fun _ _ _ h => h) (fun N q r _ h2 => hh_glos hfu hn h2)) fun l q e1 e2 hj => ?_
  obtain ⟨b, v, g1, g2, r, g3⟩ := hj
  exact ⟨b, v, g1, g2, yf_trans (yf_mono (yf_ic (c := 13)) (by decide)) (yf_mono g3.1 (by decide)), (g3.1.1 13 (by decide)).trans ys_c, g3.2⟩
theorem hh_s7 (hfu : 20 ≤ fu) (hn : lim + 2 ≤ fu) (h : yh_st B lim p u) : yC p (fm_Reader_readExports fu u) (yp_row B lim (yp_exp B lim) p) (yJ B lim fun l _ v => yf_fr [14, 17] [] [24, 25, 26] [7] u v ∧ v.1 14 = nI l.length ∧ yi_rows yi_exp l v) := by
  unfold fm_Reader_readExports
  refine yC_mono (hh_row (F := fun a v => jb_Reader_readExports_18 fu fu a (0 : Int32) v) (J := fun u l v => yf_fr [17] [] [24, 25, 26] [7] u v ∧ yi_rows yi_exp l v) yp_exp_eats hfu h (fun _ _ _ h => h) (fun N q r _ h2 => hh_exps hfu hn h2)) fun l q e1 e2 hj => ?_
  obtain ⟨b, v, g1, g2, r, g3⟩ := hj
  exact ⟨b, v, g1, g2, yf_trans (yf_mono (yf_ic (c := 14)) (by decide)) (yf_mono g3.1 (by decide)), (g3.1.1 14 (by decide)).trans ys_c, g3.2⟩
theorem hh_s11 (hfu : 20 ≤ fu) (hn : lim + 2 ≤ fu) (h : yh_st B lim p u) : yC p (fm_Reader_readData fu u) (yp_row B lim (yp_da B lim) p) (yJ B lim fun l _ v => yf_fr [16, 17] [] [31, 32] [9] u v ∧ v.1 16 = nI l.length ∧ yi_rows yi_da l v) := by
  unfold fm_Reader_readData
  refine yC_mono (hh_row (F := fun a v => jb_Reader_readData_18 fu fu a (0 : Int32) v) (J := fun u l v => yf_fr [17] [] [31, 32] [9] u v ∧ yi_rows yi_da l v) yp_da_eats hfu h (fun _ _ _ h => h) (fun N q r _ h2 => hh_das hfu hn h2)) fun l q e1 e2 hj => ?_
  obtain ⟨b, v, g1, g2, r, g3⟩ := hj
  exact ⟨b, v, g1, g2, yf_trans (yf_mono (yf_ic (c := 16)) (by decide)) (yf_mono g3.1 (by decide)), (g3.1.1 16 (by decide)).trans ys_c, g3.2⟩
theorem yi_fewc {c r : Nat} {x : Int32} (hc : ¬ c = 8 ∧ ¬ c = 9 ∧ ¬ c = 17) (h0 : yi_few u) (hp : yh_st B lim p u) (hr : yh_st B lim q (xs_I (xs_I u 17 (nI r)) c x)) (hpq : p ≤ q) : yi_few (xs_I (xs_I u 17 (nI r)) c x) := by
  obtain ⟨ns, sz, p', a, b, d, d4, d5, d6⟩ := h0
  have hp' : p' = p := (nI_eq (by omega) (by have := hp.2.2.2; omega)).mp (d.symm.trans hp.2.1)
  refine ⟨ns, sz, q, ?_, ?_, hr.2.1, by omega, by omega, by have := hr.2.2.2; omega⟩
  · rw [ys_In (fun z => hc.2.1 z.symm)]; exact a
  · rw [ys_In (fun z => hc.1 z.symm)]; exact b
theorem hh_s9 (hfu : 20 ≤ fu) (hn : lim + 2 ≤ fu) (h0 : yi_few u) (h : yh_st B lim p u) : yC p (fm_Reader_readElements fu u) (yp_row B lim (yp_el B lim) p) (yJ B lim fun l _ v => (yf_fr [9, 15, 17] [] [11, 28, 29] [8] u v ∧ yi_mono u v) ∧ yi_few v ∧ v.1 15 = nI l.length ∧ yi_rows yi_el l v) := by
  unfold fm_Reader_readElements
  refine yC_mono (hh_row (F := fun a v => jb_Reader_readElements_20 fu fu a (0 : Int32) v) (J := fun u l v => (yf_fr [9, 17] [] [11, 28, 29] [8] u v ∧ yi_mono u v) ∧ yi_few v ∧ yi_rows yi_el l v) yp_el_eats hfu h (fun _ _ _ h => h) (fun N q r hq h2 => hh_els hfu hn (yi_fewc (by decide) h0 h h2 (by omega)) h2)) fun l q e1 e2 hj => ?_
  obtain ⟨b, v, g1, g2, r, g3⟩ := hj
  refine ⟨b, v, g1, g2, ⟨yf_trans (yf_mono (yf_ic (c := 15)) (by decide)) (yf_mono g3.1.1 (by decide)), ?_⟩, g3.2.1, (g3.1.1.1 15 (by decide)).trans ys_c, g3.2.2⟩
  obtain ⟨x, y, m1, m2⟩ := g3.1.2
  exact ⟨x, y, m1, m2⟩
/-- the first k bodies begin one behind the other -/
def yV (k : Nat) (v : xk_St) : Prop := ∃ (sz : Nat) (b : Nat → Nat), v.1 8 = nI sz ∧ sz ≤ 8192 ∧ (∀ t, t < k → t < 64 → v.2.2.1 13 t = nI (b t)) ∧ (∀ t, t < k → b t < sz) ∧ ∀ i j, i < j → j < k → b i < b j
theorem yV_0 (h : yi_few v) : yV 0 v := by
  obtain ⟨ns, sz, p, a, b, c, d, e, f⟩ := h
  exact ⟨sz, fun _ => 0, b, by omega, fun _ h => by omega, fun _ h => by omega, fun _ _ _ h => by omega⟩
theorem yV_step {k t : Nat} {sz' : Nat} (h : yV k u) (ht : t = min k 64) (hj : ∀ j, ¬ j = t → v.2.2.1 13 j = u.2.2.1 13 j) (hs : ∃ sz, u.1 8 = nI sz ∧ v.2.2.1 13 t = nI sz) (h8 : v.1 8 = nI sz') (hlt : ∀ sz, u.1 8 = nI sz → sz ≤ 8192 → sz < sz') (hb : sz' ≤ 8192) : yV (k + 1) v := by
  obtain ⟨sz, b, h1, h2, h3, h4, h5⟩ := h
  obtain ⟨s, s1, s2⟩ := hs
  have hsz := hlt sz h1 h2
  refine ⟨sz', fun i => if i < k then b i else sz, h8, hb, fun i hi hi2 => ?_, fun i hi => ?_, fun i j hij hj' => ?_⟩
  · by_cases z : i < k
    · show v.2.2.1 13 i = nI (if i < k then b i else sz)
      rw [if_pos z, hj i (by omega)]
      exact h3 i z hi2
    · show v.2.2.1 13 i = nI (if i < k then b i else sz)
      obtain rfl : i = t := by omega
      rw [if_neg z, s2, ← s1, h1]
  · show (if i < k then b i else sz) < sz'
    by_cases z : i < k
    · rw [if_pos z]
      have := h4 i z
      omega
    · rw [if_neg z]; exact hsz
  · show (if i < k then b i else sz) < if j < k then b j else sz
    by_cases z : j < k
    · rw [if_pos z, if_pos (by omega)]
      exact h5 i j hij z
    · rw [if_neg z, if_pos (by omega)]
      exact h4 i (by omega)
/-- all bodies -/
theorem hh_s10 (hD : 8193 ≤ D) (hDf : D < fu) (hfu : 20 ≤ fu) (hn : lim + 2 ≤ fu) (h0 : yi_few u) (h : yh_st B lim p u) : yC p (fm_Reader_readCode fu u) (yp_row B lim (yp_body D B lim) p) (yJ B lim fun l _ v => (yf_fr [5, 8, 9, 17, 18] [] [7, 8, 9, 11, 13] [2] u v ∧ yk_add u v ∧ ∀ N0, yW N0 u → yW N0 v) ∧ (yi_few v ∧ yV l.length v) ∧ v.1 5 = nI l.length ∧ yi_rows yi_bd l v) := by
  unfold fm_Reader_readCode
  have h18 : u.1 18 = nI lim := h.2.2.1
  rw [h18]
  have hm0 : ∀ v, yi_few v → yk_add v v := fun v hv => by
    obtain ⟨ns, sz, p, a, b, c, d, e, f⟩ := hv
    exact ⟨sz, sz, b, b, Nat.le_refl _, by omega, fun _ _ => ⟨rfl, rfl, rfl, fun _ => rfl⟩, ns, ns, a, a, Nat.le_refl _, by omega, fun _ _ => rfl⟩
  refine yC_mono (hh_row (c := 5) (F := fun a v => jb_Reader_readCode_20 fu fu (nI lim) a (0 : Int32) v) (J := fun u l v => (yk_bfr u v ∧ yk_add u v ∧ ∀ N0, yW N0 u → yW N0 v) ∧ (yi_few v ∧ yV l.length v) ∧ yi_rows yi_bd l v) yp_body_eats hfu h (fun _ _ _ h => h) (fun N q r hq h2 => ?_)) fun l q e1 e2 hj => ?_
  · have hfw : yi_few (xs_I (xs_I u 17 (nI r)) 5 (nI (yn_c N))) := yi_fewc (by decide) h0 h h2 (by omega)
    refine yC_rowsI (fu := fu) yp_body_eats yi_bd (fun a b => yk_bfr a b ∧ yk_add a b ∧ ∀ N0, yW N0 a → yW N0 b) (fun k v => yi_few v ∧ yV k v) N (fun n a b v => jb_Reader_readCode_20 fu n (nI lim) a b v) ⟨yf_refl, hm0 _ hfw, fun _ h => h⟩ (fun _ _ a b => ⟨yf_trans a.1 b.1, yk_addT a.2.1 b.2.1, fun N0 h => b.2.2 N0 (a.2.2 N0 h)⟩) ⟨hfw, yV_0 hfw⟩ ?_ ?_ hn h2
    · intro n k v hN hk
      show jb_Reader_readCode_20 fu (n + 1) (nI lim) (nI (yn_c N)) (nI k) v = _
      unfold jb_Reader_readCode_20
      simp only [xs_let]
      rw [if_pos ((yn_cl (by omega)).mpr hN)]
    · intro n k t p v hk hk2 ht hv hT
      refine yC_mono (hh_body (n := n) (b2 := nI (yn_c N)) hD hDf hfu hn hk2 ht (fun z => by have := (yn_cl (by omega)).mp z; omega) hv hT.1) fun a q f1 f2 hj => ?_
      obtain ⟨w, g1, g2, g3, ⟨g4, g5, g6⟩, g7, gW, gs⟩ := hj
      refine ⟨w, g1, g2, ⟨g3, ?_⟩, ⟨g4, g5, gW⟩, fun j c hj hP => yi_bdK hP g5 (g6 j hj), g7⟩
      obtain ⟨sz, c1, c2, c3, c4, m, c5, c6, c7⟩ := g7
      obtain ⟨s1, e0, e1, e2⟩ := gs
      refine yV_step hT.2 ht g6 ⟨s1, e1, e2⟩ c5 (fun s0 d1 d2 => ?_) c7
      have h1 : s0 = s1 := (nI_eq (by omega) (by omega)).mp (d1.symm.trans e1)
      have h2 : sz = s1 := (nI_eq (by omega) (by omega)).mp (c1.symm.trans e2)
      omega
  · obtain ⟨b, v, g1, g2, r, g3⟩ := hj
    refine ⟨b, v, g1, g2, ⟨yf_trans (yf_mono (yf_ic (c := 5)) (by decide)) (yf_mono g3.1.1 (by decide)), ?_, fun N0 h => g3.1.2.2 N0 h⟩, g3.2.1, (g3.1.1.1 5 (by decide)).trans ys_c, g3.2.2⟩
    obtain ⟨x, y, m1, m2⟩ := g3.1.2.1
    exact ⟨x, y, m1, m2⟩
end
