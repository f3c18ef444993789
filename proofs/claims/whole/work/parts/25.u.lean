section
variable {α β γ δ : Type} {B : Nat → Int32} {u v w : xk_St} {L lim p q fu : Nat} {e : Int32}
/-- an entry of the code is added -/
def yd_add (u : xk_St) (sz : Nat) (op x1 : Int32) (x2 : Int64) : xk_St := xs_I (xs_B (xs_A (xs_A u 7 sz op) 8 sz x1) 2 sz x2) 8 (nI (sz + 1))
theorem yd_sh : ∀ j, j < 287 → vp_nar .short ((nI j).toInt16.toInt32) = nI j := by decide +kernel
theorem hh_add {sz op : Nat} {x1 : Int32} {x2 : Int64} (hs : u.1 8 = nI sz) (hz : sz < 8192) (ho : op < 287) : fm_Code_add (nI op) x1 x2 u = some ((), yd_add u sz (nI op) x1 x2) := by
  unfold fm_Code_add yd_add
  have h1 : ∀ i x, (xs_A u 7 i x).1 8 = nI sz := fun _ _ => hs
  have h2 : ∀ i x j y, (xs_A (xs_A u 7 i x) 8 j y).1 8 = nI sz := fun _ _ _ _ => hs
  have h3 : ∀ i x j y k z, (xs_B (xs_A (xs_A u 7 i x) 8 j y) 2 k z).1 8 = nI sz := fun _ _ _ _ _ _ => hs
  simp only [xs_let, hs, h1, h2, h3]
  rw [if_neg (show ¬ (8192 : Int32) ≤ nI sz from nI_ge (b := 8192) hz (by decide)), if_neg (nI_in (N := 8192) hz (by decide)), if_neg (nI_in (N := 8192) hz (by decide)), if_neg (nI_in (N := 8192) hz (by decide)), nI_clamp (by omega), yd_sh op ho, nI_1]
theorem hh_addN {ns : Nat} {x : Int32} (hs : u.1 9 = nI ns) (hz : ns < 8192) : fm_Code_addNumber x u = some ((), xs_I (xs_A u 11 ns x) 9 (nI (ns + 1))) := by
  unfold fm_Code_addNumber
  have h1 : ∀ i y, (xs_A u 11 i y).1 9 = nI ns := fun _ _ => hs
  simp only [xs_let, hs, h1]
  rw [if_neg (show ¬ (8192 : Int32) ≤ nI ns from nI_ge (b := 8192) hz (by decide)), if_neg (nI_in (N := 8192) hz (by decide)), nI_clamp (by omega), nI_1]
def yi_nums (ns : Nat) (u : xk_St) (l : List Nat) (v : xk_St) : Prop := v.1 9 = nI (ns + l.length) ∧ (∀ i c, l[i]? = some c → v.2.2.1 11 (ns + i) = nI (yn_c c)) ∧ (∀ i, i < ns → v.2.2.1 11 i = u.2.2.1 11 i) ∧ yf_fr [9, 17] [] [11] [] u v ∧ ∃ p, v.1 17 = nI p ∧ ns + l.length ≤ p ∧ p ≤ 8192
theorem hh_nums7 {ns N : Nat} (hfu : 20 ≤ fu) (hn : lim + 2 ≤ fu) (h9 : u.1 9 = nI ns) (hns : ns ≤ p) (h : yh_st B lim p u) : yC p (jb_Reader_readNumbers_7 fu fu (nI (yn_c N)) (0 : Int32) u) (yp_rep (yp_N B lim) N p) (yJ B lim fun l b v => b = nI (yn_c N) ∧ yi_nums ns u l v) := by
  have := yC_rep (B := B) (lim := lim) (it := yp_N B lim) yp_N_eats' (yi_nums ns u) N (fun n k v => jb_Reader_readNumbers_7 fu n (nI (yn_c N)) (nI k) v) (fun v => some (.inl (nI (yn_c N)), v)) ?_ ?_ (lim - p + 1) [] p fu u (by omega) (by omega) (Nat.zero_le _) (Nat.zero_le _) h ⟨h9, fun i c hi => by simp at hi, fun _ _ => rfl, yf_refl, p, h.2.1, hns, by have := h.2.2.2; omega⟩
  · refine yC_mono this fun l q e1 e2 hj => ?_
    obtain ⟨v, e3, e4, e5⟩ := hj
    exact ⟨_, v, e3, e4, rfl, by rw [List.nil_append] at e5; exact e5⟩
  · intro n k v hN hk
    show jb_Reader_readNumbers_7 fu (n + 1) (nI (yn_c N)) (nI k) v = _
    unfold jb_Reader_readNumbers_7
    simp only [xs_let]
    rw [if_pos ((yn_cl (by omega)).mpr hN)]
  · intro n l p v hl hl2 hv hI
    obtain ⟨i1, i2, i3, i4, p2, i5, i6, i7⟩ := hI
    have hp' : p2 = p := (nI_eq (by omega) (by have := hv.2.2.2; omega)).mp (i5.symm.trans hv.2.1)
    subst hp'
    show yC p2 (jb_Reader_readNumbers_7 fu (n + 1) (nI (yn_c N)) (nI l.length) v) _ _
    conv => arg 2; unfold jb_Reader_readNumbers_7
    simp only [xs_let]
    rw [if_neg (fun z => by have := (yn_cl (by omega)).mp z; omega), yp_self (s := yp_N B lim p2), nI_1]
    refine yC_try (yC_of hv (hh_N hfu hv)) fun c q b w e1 e2 hw e3 => ?_
    obtain ⟨rfl, q', rfl⟩ := e3
    obtain ⟨-, hq1, hq2⟩ := yp_Nb e1
    have hl8 := hv.2.2.2.2
    rw [hh_addN (ns := ns + l.length) (show (xs_I v 17 (nI q')).1 9 = _ from i1) (by omega), ys_seq]
    have hlen : (l ++ [c]).length = l.length + 1 := by simp
    refine yC_ok (Nat.le_refl _) ⟨_, rfl, hw, ?_, fun i d hi => ?_, fun i hi => ?_, yf_I (yf_A (yf_I i4 (by decide)) (by decide)) (by decide), q, hw.2.1, by omega, by omega⟩
    · rw [hlen, ← Nat.add_assoc]; rfl
    · show upd (v.2.2.1 11) (ns + l.length) (nI (yn_c c)) (ns + i) = _
      by_cases hc : i < l.length
      · rw [List.getElem?_append_left hc] at hi
        rw [upd, if_neg (by omega)]
        exact i2 i d hi
      · rw [List.getElem?_append_right (by omega)] at hi
        have h0 : i - l.length = 0 := by
          by_cases z : i - l.length = 0
          · exact z
          · rw [List.getElem?_eq_none (by simp; omega)] at hi; cases hi
        rw [h0] at hi
        cases hi
        rw [upd, if_pos (by omega)]
    · show upd (v.2.2.1 11) (ns + l.length) (nI (yn_c c)) i = _
      rw [upd, if_neg (by omega)]
      exact i3 i hi
theorem hh_nums {ns : Nat} (hfu : 20 ≤ fu) (hn : lim + 2 ≤ fu) (h9 : u.1 9 = nI ns) (hns : ns ≤ p) (h : yh_st B lim p u) : yC p (fm_Reader_readNumbers fu u) (yp_then (yp_N B lim p) fun n q => yp_rep (yp_N B lim) n q) (yJ B lim fun l b v => b = nI l.length ∧ yi_nums ns u l v) := by
  unfold fm_Reader_readNumbers
  refine yC_try (yC_of h (hh_N hfu h)) fun N q b w e1 e2 hw e3 => ?_
  obtain ⟨rfl, q', rfl⟩ := e3
  refine yC_mono (hh_nums7 hfu hn (show (xs_I u 17 (nI q')).1 9 = nI ns from h9) (by omega) hw) fun l r f1 f2 hj => ?_
  obtain ⟨b, v, g1, g2, g3, g4⟩ := hj
  have hlen := yp_repl f1
  have hle := yp_rep_eats yp_N_eats' f1
  have hl8 := hw.2.2.2
  refine ⟨b, v, g1, g2, ?_, g4.1, g4.2.1, g4.2.2.1, yf_trans (yf_I yf_refl (by decide)) g4.2.2.2.1, g4.2.2.2.2⟩
  rw [g3, hlen, yn_cs (by omega)]
/-- elements -/
def yi_el (v : xk_St) (k : Nat) (a : Int64 × List Nat) : Prop := ∃ s m, v.2.2.1 28 k = nI s ∧ v.2.2.1 29 k = nI a.2.length ∧ v.2.2.2 8 k = a.1 &&& 4294967295 ∧ (∀ i c, a.2[i]? = some c → v.2.2.1 11 (s + i) = nI (yn_c c)) ∧ v.1 9 = nI m ∧ s + a.2.length ≤ m ∧ m ≤ 8192
/-- numbers are only added -/
def yi_mono (u v : xk_St) : Prop := ∃ a b, u.1 9 = nI a ∧ v.1 9 = nI b ∧ a ≤ b ∧ b ≤ 8192 ∧ ∀ i, i < a → v.2.2.1 11 i = u.2.2.1 11 i
theorem yi_monoT (h1 : yi_mono u v) (h2 : yi_mono v w) : yi_mono u w := by
  obtain ⟨a, b, e1, e2, e3, e4, e5⟩ := h1
  obtain ⟨c, d, f1, f2, f3, f4, f5⟩ := h2
  have : b = c := (nI_eq (by omega) (by omega)).mp (e2.symm.trans f1)
  subst this
  exact ⟨a, d, e1, f2, by omega, f4, fun i hi => (f5 i (by omega)).trans (e5 i hi)⟩
theorem yi_elK {k : Nat} {a : Int64 × List Nat} (h : yi_el v k a) (hm : yi_mono v w) (h28 : w.2.2.1 28 k = v.2.2.1 28 k) (h29 : w.2.2.1 29 k = v.2.2.1 29 k) (h8 : w.2.2.2 8 k = v.2.2.2 8 k) : yi_el w k a := by
  obtain ⟨s, m, e1, e2, e3, e4, e5, e6, e7⟩ := h
  obtain ⟨x, y, f1, f2, f3, f4, f5⟩ := hm
  have : m = x := (nI_eq (by omega) (by omega)).mp (e5.symm.trans f1)
  subst this
  refine ⟨s, y, h28.trans e1, h29.trans e2, h8.trans e3, fun i c hi => ?_, f2, by omega, f4⟩
  have hl : i < a.2.length := by
    rcases Nat.lt_or_ge i a.2.length with z | z
    · exact z
    · rw [List.getElem?_eq_none z] at hi; cases hi
  rw [f5 (s + i) (by omega)]
  exact e4 i c hi
/-- as yC_rows, with something that holds all the way -/
theorem yC_rowsI {it : Nat → (α × Nat) ⊕ Nat} (hit : yp_eats lim it) (P : xk_St → Nat → α → Prop) (R : xk_St → xk_St → Prop) (T : Nat → xk_St → Prop) (N : Nat) (F : Nat → Int32 → Int32 → xk_St → Option ((Unit ⊕ Nat) × xk_St)) (hR : R u u) (hT : ∀ v w, R u v → R v w → R u w) (h0 : T 0 u)
    (hE : ∀ n k v, N ≤ k → k ≤ 8192 → F (n + 1) (nI (yn_c N)) (nI k) v = some (.inl (), v))
    (hi : ∀ n k t p v, k < N → k ≤ 8192 → t = min k 64 → yh_st B lim p v → T k v → yC p (F (n + 1) (nI (yn_c N)) (nI k) v) (it p) fun a q o => ∃ w, o = F n (nI (yn_c N)) (nI (k + 1)) w ∧ yh_st B lim q w ∧ T (k + 1) w ∧ R v w ∧ (∀ j c, ¬ j = t → P v j c → P w j c) ∧ P w t a)
    (hn : lim + 2 ≤ fu) (h : yh_st B lim p u) : yC p (F fu (nI (yn_c N)) (0 : Int32) u) (yp_rep it N p) (yJ B lim fun l _ v => R u v ∧ T l.length v ∧ yi_rows P l v) := by
  have := yC_rep (B := B) (lim := lim) hit (fun l v => R u v ∧ T l.length v ∧ yi_rows P l v) N (fun n k v => F n (nI (yn_c N)) (nI k) v) (fun v => some (.inl (), v)) hE ?_ (lim - p + 1) [] p fu u (by omega) (by omega) (Nat.zero_le _) (Nat.zero_le _) h ⟨hR, h0, yi_nil⟩
  · refine yC_mono this fun l q e1 e2 hj => ?_
    obtain ⟨v, e3, e4, e5⟩ := hj
    exact ⟨(), v, e3, e4, by rw [List.nil_append] at e5; exact e5⟩
  · intro n l p v hl hl2 hv hI
    refine yC_mono (hi n l.length _ p v hl hl2 rfl hv hI.2.1) fun a q _ _ hj => ?_
    obtain ⟨w, g1, g2, g2', g3, g4, g5⟩ := hj
    exact ⟨w, g1, g2, hT v w hI.1 g3, by rw [List.length_append, List.length_singleton]; exact g2', yi_snoc rfl hI.2.2 g4 g5⟩
/-- how many numbers and entries there are, at most as many as bytes were read -/
def yi_few (v : xk_St) : Prop := ∃ ns sz p, v.1 9 = nI ns ∧ v.1 8 = nI sz ∧ v.1 17 = nI p ∧ ns ≤ p ∧ sz ≤ p ∧ p ≤ 8192
theorem hh_els {N : Nat} (hfu : 20 ≤ fu) (hn : lim + 2 ≤ fu) (h0 : yi_few u) (h : yh_st B lim p u) : yC p (jb_Reader_readElements_20 fu fu (nI (yn_c N)) (0 : Int32) u) (yp_rep (yp_el B lim) N p) (yJ B lim fun l _ v => (yf_fr [9, 17] [] [11, 28, 29] [8] u v ∧ yi_mono u v) ∧ yi_few v ∧ yi_rows yi_el l v) := by
  have hm0 : ∀ v, yi_few v → yi_mono v v := fun v hv => by
    obtain ⟨ns, sz, p, a, b, c, d, e, f⟩ := hv
    exact ⟨ns, ns, a, a, Nat.le_refl _, by omega, fun _ _ => rfl⟩
  refine yC_rowsI (fu := fu) yp_el_eats yi_el (fun a b => yf_fr [9, 17] [] [11, 28, 29] [8] a b ∧ yi_mono a b) (fun _ => yi_few) N (jb_Reader_readElements_20 fu) ⟨yf_refl, hm0 u h0⟩ (fun _ _ a b => ⟨yf_trans a.1 b.1, yi_monoT a.2 b.2⟩) h0 ?_ ?_ hn h
  · intro n k v hN hk
    unfold jb_Reader_readElements_20
    simp only [xs_let]
    rw [if_pos ((yn_cl (by omega)).mpr hN)]
  · intro n k t p v hk hk2 ht hv hT
    obtain ⟨ns, sz, p', t1, t2, t3, t4, t5, t6⟩ := hT
    have hp' : p' = p := (nI_eq (by omega) (by have := hv.2.2.2; omega)).mp (t3.symm.trans hv.2.1)
    subst hp'
    conv => arg 2; unfold jb_Reader_readElements_20
    unfold yp_el
    simp only [xs_let]
    rw [if_neg (fun z => by have := (yn_cl (by omega)).mp z; omega), hh_min64 (by omega), ← ht, nI_1]
    refine yC_try (yC_of hv (hh_place hfu hv)) fun x q b w e1 e2 hw e3 => ?_
    obtain ⟨rfl, q1, rfl⟩ := e3
    have ht64 : t ≤ 64 := by omega
    simp only [hh_ix ht64, hh_ix' ht64, nI_clamp (show t < 2 ^ 31 by omega)]
    have hns9 : ∀ y, (xs_B (xs_I v 17 (nI q1)) 8 t y).1 9 = nI ns := fun _ => t1
    rw [hns9]
    have hw' : yh_st B lim q (xs_A (xs_B (xs_I v 17 (nI q1)) 8 t (x &&& 4294967295)) 28 t (nI ns)) := hw
    have e0 : (yp_then (yp_N B lim q) fun n q => yp_then (yp_rep (yp_N B lim) n q) fun l q => (.inl ((x, l), q) : ((Int64 × List Nat) × Nat) ⊕ Nat)) = yp_then (yp_then (yp_N B lim q) fun n q => yp_rep (yp_N B lim) n q) fun l q => .inl ((x, l), q) := by
      rw [yp_then_then]
    rw [e0]
    refine yC_try (hh_nums hfu hn (show (xs_A (xs_B (xs_I v 17 (nI q1)) 8 t (x &&& 4294967295)) 28 t (nI ns)).1 9 = nI ns from t1) (by omega) hw') fun l r b w f1 f2 hw f3 => ?_
    obtain ⟨rfl, i1, i2, i3, i4, p2, i5, i6, i7⟩ := f3
    have hmo : yi_mono v (xs_A w 29 t (nI l.length)) := ⟨ns, ns + l.length, t1, i1, by omega, by omega, i3⟩
    have h28 : w.2.2.1 28 = upd (v.2.2.1 28) t (nI ns) := (i4.2.2.1 28 (by decide)).trans ys_Ag
    have h8 : w.2.2.2 8 = vp_updL (v.2.2.2 8) t (x &&& 4294967295) := (i4.2.2.2 8 (by decide)).trans rfl
    have h29 : w.2.2.1 29 = v.2.2.1 29 := i4.2.2.1 29 (by decide)
    have hfr : yf_fr [9, 17] [] [11, 28, 29] [8] v (xs_A w 29 t (nI l.length)) := yf_A (yf_trans (yf_A (yf_B (yf_I yf_refl (by decide)) (by decide)) (by decide)) (yf_mono i4 (by decide))) (by decide)
    have h8s : w.1 8 = nI sz := (i4.1 8 (by decide)).trans t2
    refine yC_ok (Nat.le_refl _) ⟨_, rfl, hw, ⟨ns + l.length, sz, p2, i1, h8s, i5, i6, ?_, i7⟩, ⟨hfr, hmo⟩, fun j c hj hP => ?_, ?_⟩
    · have : p2 = r := (nI_eq (by omega) (by have := hw.2.2.2; omega)).mp (i5.symm.trans hw.2.1)
      omega
    · refine yi_elK hP hmo ?_ ?_ ?_
      · show w.2.2.1 28 j = _
        rw [h28, ya_j hj]
      · show upd (w.2.2.1 29) t _ j = _
        rw [ya_j hj, h29]
      · show w.2.2.2 8 j = _
        rw [h8, yb_j hj]
    · refine ⟨ns, ns + l.length, ?_, ya_t, ?_, i2, i1, Nat.le_refl _, by omega⟩
      · show w.2.2.1 28 t = _
        rw [h28, ya_t]
      · show w.2.2.2 8 t = _
        rw [h8, yb_t]
end
