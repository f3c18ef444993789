section
variable {α β γ δ σ τ : Type} {B : Nat → Int32} {u v w u' v' u0 v0 u1 v1 uh um uc um1 v8 : xk_St} {T : List (Nat × List Nat × List Nat)} {F : List Nat} {G : List (Nat × Nat × Nat × Int64)} {n fu p q k j d b g m i t sz ix tc mc D len : Nat} {H H' : rH} {z h : Nat → Nat} {S : Nat → Option (Nat × Nat)} {l4 l5 : List (Nat × Option Nat)} {l9 : List (Int64 × List Nat)} {l11 : List (Int64 × Nat × Nat)}
/-- the class lays its globals -/
theorem hi_glob (hG : G.length ≤ 64) (hrow : yi_rows yi_glo G u0) (hf : ∀ (k : Nat) a, G[k]? = some a → a.1 < 150 ∧ (a.1 < 16 → a.2.2.1 < 16)) (h13 : u0.1 13 = nI G.length) : ∀ (j i n : Nat) (u : xk_St), i + j = G.length → j < n → u.1 29 = nI i → yf_fr [29] [] [38] [11] u0 u → (∀ (k : Nat) a, k < i → G[k]? = some a → u.2.2.2 11 k = (if a.1 < 16 then a.2.2.2 else 0) ∧ u.2.2.1 38 k = (if a.1 < 16 then 0 else 1)) → ∃ u' n', jb_Machine_begin_2 fu n (nI i) u = jb_Machine_begin_2 fu (n' + 1) (nI G.length) u' ∧ u'.1 29 = nI G.length ∧ yf_fr [29] [] [38] [11] u0 u' ∧ ∀ (k : Nat) a, G[k]? = some a → u'.2.2.2 11 k = (if a.1 < 16 then a.2.2.2 else 0) ∧ u'.2.2.1 38 k = (if a.1 < 16 then 0 else 1) := by
  intro j
  induction j with
  | zero =>
    intro i n u hij hn h29 hfr hk
    obtain ⟨n, rfl⟩ : ∃ f, n = f + 1 := ⟨n - 1, by omega⟩
    have hi : i = G.length := by omega
    subst hi
    exact ⟨u, n, rfl, h29, hfr, fun k a ha => hk k a (yl_lt ha) ha⟩
  | succ j ih =>
    intro i n u hij hn h29 hfr hk
    obtain ⟨n, rfl⟩ : ∃ f, n = f + 1 := ⟨n - 1, by omega⟩
    obtain ⟨a, ha⟩ : ∃ a, G[i]? = some a := ⟨_, List.getElem?_eq_getElem (by omega)⟩
    obtain ⟨f1, f2⟩ := hf i a ha
    obtain ⟨r1, r2, r3, r4⟩ := hrow i a (by omega) ha
    have u13 : u.1 13 = nI G.length := by rw [hfr.1 13 (by decide)]; exact h13
    have u21 : u.2.2.1 21 i = nI (yv_h a.1) := by rw [hfr.2.2.1 21 (by decide)]; exact r1
    let u1 : xk_St := xs_I (xs_A (xs_B u 11 i (if a.1 < 16 then a.2.2.2 else 0)) 38 i (if a.1 < 16 then 0 else 1)) 29 (nI (i + 1))
    have hstep : jb_Machine_begin_2 fu (n + 1) (nI i) u = jb_Machine_begin_2 fu n (nI (i + 1)) u1 := by
      conv => lhs; unfold jb_Machine_begin_2
      simp only [xs_let]
      rw [u13, if_neg (fun t => by have := (nI_leI (by omega) (by omega)).mp t; omega), ix65 (by omega), show (nI i).toNatClampNeg = i from nI_clamp (by omega), u21]
      unfold fm_Types_isReference jb_Machine_begin_64 fm_Values_push__h64 fm_Values_pushReference__h64
      simp only [xs_let]
      by_cases q : a.1 < 16
      · rw [if_pos ((yq_r a.1 f1).mpr q), ys_seq, if_pos rfl, if_neg (nI_inc (by omega) (by decide))]
        have u6 : u.2.2.2 6 i = a.2.2.2 := by rw [hfr.2.2.2 6 (by decide)]; exact r4 (f2 q)
        have w29 : ∀ y, (xs_B u 11 i y).1 29 = nI i := fun _ => h29
        have w29' : ∀ y y', (xs_A (xs_B u 11 i y) 38 i y').1 29 = nI i := fun _ _ => h29
        rw [h29, ix64 (by omega), show (nI i).toNatClampNeg = i from nI_clamp (by omega), w29, ix64 (by omega), show (nI i).toNatClampNeg = i from nI_clamp (by omega), w29', ys_seq, nI_1, bo_01 (Or.inl rfl), u6]
        show jb_Machine_begin_2 fu n (nI (i + 1)) _ = jb_Machine_begin_2 fu n (nI (i + 1)) u1
        have : u1 = xs_I (xs_A (xs_B u 11 i a.2.2.2) 38 i 0) 29 (nI (i + 1)) := by
          show xs_I (xs_A (xs_B u 11 i (if a.1 < 16 then a.2.2.2 else 0)) 38 i (if a.1 < 16 then 0 else 1)) 29 (nI (i + 1)) = _
          rw [if_pos q, if_pos q]
        rw [this]
      · rw [if_neg (fun t => q ((yq_r a.1 f1).mp t)), ys_seq, if_neg (show ¬ (1 : Int32) = 0 by decide)]
        have w29 : ∀ y, (xs_B u 11 i y).1 29 = nI i := fun _ => h29
        have w29' : ∀ y y', (xs_A (xs_B u 11 i y) 38 i y').1 29 = nI i := fun _ _ => h29
        rw [h29, ix64 (by omega), show (nI i).toNatClampNeg = i from nI_clamp (by omega), w29, ix64 (by omega), show (nI i).toNatClampNeg = i from nI_clamp (by omega), w29', ys_seq, nI_1, bo_01 (Or.inr rfl)]
        have : u1 = xs_I (xs_A (xs_B u 11 i 0) 38 i 1) 29 (nI (i + 1)) := by
          show xs_I (xs_A (xs_B u 11 i (if a.1 < 16 then a.2.2.2 else 0)) 38 i (if a.1 < 16 then 0 else 1)) 29 (nI (i + 1)) = _
          rw [if_neg q, if_neg q]
        rw [this]
    rw [hstep]
    refine ih (i + 1) n u1 (by omega) (by omega) rfl (yf_I (yf_A (yf_B hfr (by decide)) (by decide)) (by decide)) fun k b hk' hb => ?_
    show vp_updL (u.2.2.2 11) i _ k = _ ∧ upd (u.2.2.1 38) i _ k = _
    by_cases q : k = i
    · subst q
      rw [ha] at hb; cases hb
      rw [yb_t, ya_t]; exact ⟨rfl, rfl⟩
    · rw [yb_j q, ya_j q]
      exact hk k b (by omega) hb
/-- tables alike -/
def tbE (F : List Nat) (u v : xk_St) : Prop := ∀ i, i < 64 → u.2.2.1 47 i = v.2.2.1 28 i ∧ (u.2.2.1 47 i = -1 ∨ ∃ f, f < F.length ∧ u.2.2.1 47 i = nI f)
theorem mi_122 {off cnt : Nat} {b1 b2 : Int32} {k70 : Int32 → Int32 → xk_St → Option (Unit × xk_St)} (hfu : 100 ≤ fu) (hoc : off + cnt ≤ 64) : ∀ (l : List Nat) (i p e n : Nat) (v : xk_St), yp_rep (yp_N B len) l.length p = .inl (l, e) → i + l.length = cnt → l.length < n → (∀ (x : Nat) c, l[x]? = some c → c < 64) → ym_st B len p v → v.1 6 = 0 → v.1 29 = 0 → ∃ v', jb_Model_instance_122 fu k70 n b1 b2 (lN off) (lN cnt) (lN i) v = jb_Model_instance_161 fu k70 b1 b2 v' ∧ ym_st B len e v' ∧ v'.1 6 = 0 ∧ yf_fr [4] [] [28] [] v v' ∧ (∀ (x : Nat) c, l[x]? = some c → v'.2.2.1 28 (off + i + x) = nI c) ∧ ∀ y, y < off + i ∨ off + cnt ≤ y → v'.2.2.1 28 y = v.2.2.1 28 y := by
  intro l
  induction l with
  | nil =>
    intro i p e n v hp hi hn hc hst h6 h29
    obtain ⟨n, rfl⟩ : ∃ f, n = f + 1 := ⟨n - 1, by omega⟩
    have hep : e = p := by
      unfold yp_rep at hp
      exact (congrArg Prod.snd (Sum.inl.inj hp)).symm
    have hi : i = cnt := hi
    refine ⟨v, ?_, by rw [hep]; exact hst, h6, yf_refl, (fun x c hx => by cases hx), fun y _ => rfl⟩
    unfold jb_Model_instance_122
    simp only [xs_let]
    rw [if_pos ((lN_le2 (by omega) (by omega)).mpr (by omega))]
  | cons c l ih =>
    intro i p e n v hp hi hn hc hst h6 h29
    obtain ⟨n, rfl⟩ : ∃ f, n = f + 1 := ⟨n - 1, by omega⟩
    rw [List.length_cons] at hp hi hn
    unfold yp_rep at hp
    obtain ⟨a, q, e1, e2⟩ := yp_thenI hp
    obtain ⟨l', r, e3, e4⟩ := yp_thenI e2
    cases e4
    obtain ⟨-, -, hq2⟩ := yp_Nb e1
    have hc64 := hc 0 c rfl
    obtain ⟨v', r1, r2, r3, r4, r5, r6⟩ := ih (i + 1) q e n (xs_A (xs_I v 4 (nI q)) 28 (off + i) (nI c)) e3 (by omega) (by omega) (fun x y hx => hc (x + 1) y hx) (ym_mv hst hq2) h6 h29
    refine ⟨v', ?_, r2, r3, yf_trans (yf_A (yf_I yf_refl (by decide)) (by decide)) r4, fun x y hx => ?_, fun y hy => ?_⟩
    · rw [← r1]
      conv => lhs; unfold jb_Model_instance_122
      simp only [xs_let]
      rw [if_neg (fun t => by have := (lN_le2 (by omega) (by omega)).mp t; omega), if_pos h29, mk_N (by omega) hst h6 e1, ys_seq, lN_add2 (by omega) (by omega), sb_nLi (by omega), ix64 (by omega), show (nI (off + i)).toNatClampNeg = off + i from nI_clamp (by omega), sb_nLi (by omega), show (1 : Int64) = lN 1 from rfl, lN_add2 (by omega) (by omega)]
    · cases x with
      | zero =>
        cases hx
        rw [r6 _ (by omega)]
        show upd (v.2.2.1 28) (off + i) (nI c) (off + i + 0) = _
        rw [Nat.add_zero, ya_t]
      | succ x =>
        have := r5 x y hx
        rw [show off + (i + 1) + x = off + i + (x + 1) by omega] at this
        exact this
    · rw [r6 y (by omega)]
      show upd (v.2.2.1 28) (off + i) (nI c) y = _
      rw [ya_j (by omega)]
/-- after a fault the reference only goes to the end -/
theorem mi_70e {b1 b2 : Int32} (h : ¬ v.1 29 = 0) : jb_Model_instance_70 fu (n + 1) b1 b2 v = jb_Model_instance_167 fu v := by
  unfold jb_Model_instance_70
  simp only [xs_let]
  split <;> first | rfl | rw [if_neg h]
theorem mi_167e (hfu : 0 < fu) (h : ¬ v.1 29 = 0) : jb_Model_instance_167 fu v = some ((), v) := by
  unfold jb_Model_instance_167 jb_Model_instance_184
  rw [if_neg h]
  obtain ⟨f, hf⟩ : ∃ f, fu = f + 1 := ⟨fu - 1, by omega⟩
  have : jb_Model_instance_187 fu (f + 1) 0 0 v = some ((), v) := by
    unfold jb_Model_instance_187 jb_Model_instance_288
    simp only [xs_let]
    rw [if_pos (by decide), if_neg h]
  rw [← hf] at this
  exact this
/-- elements are placed by both -/
theorem hm_elems {tp : Nat} (hfu : 8300 ≤ fu) (hl64 : l9.length ≤ 64) (hel : ∀ (k : Nat) a, l9[k]? = some a → ∀ (i : Nat) x, a.2[i]? = some x → x < F.length) (hF : F.length ≤ 64) (hC : ∀ (k : Nat) a, k < 64 → l9[k]? = some a → ∃ s, u0.2.2.1 28 k = nI s ∧ u0.2.2.1 29 k = nI a.2.length ∧ u0.2.2.2 8 k = a.1 &&& 4294967295 ∧ (∀ (i : Nat) c, a.2[i]? = some c → u0.2.2.1 11 (s + i) = nI (yn_c c)) ∧ s + a.2.length ≤ 8192) (h15 : u0.1 15 = nI l9.length) (htp : 0 < l9.length → fm_Mod_tablePlaces u0 = some (nI tp, u0)) (htp2 : tp ≤ 64) (h24 : v0.1 24 = nI tp) : ∀ (j k p e n m : Nat) (u v : xk_St), k + j = l9.length → j < n → j + 1 < m → yp_rep (yp_el B len) j p = .inl (l9.drop k, e) → (0 < j → ym_st B len p v) → v.1 6 = 0 → v.1 29 = 0 → yf_fr [] [] [47] [] u0 u → yf_fr [4, 6, 29] [0] [28] [] v0 v → tbE F u v → ∃ c u' v', (c = 0 ∨ c = 5) ∧ jb_Machine_placeElements_10 fu n (nI k) u = some (nI c, u') ∧ jb_Model_instance_70 fu m (nI l9.length) (nI k) v = jb_Model_instance_167 fu v' ∧ v'.1 29 = nI c ∧ v'.1 6 = 0 ∧ yf_fr [] [] [47] [] u0 u' ∧ yf_fr [4, 6, 29] [0] [28] [] v0 v' ∧ tbE F u' v' := by
  intro j
  induction j with
  | zero =>
    intro k p e n m u v hkj hn hm hp hst h6 h29 hu hv hT
    obtain ⟨n, rfl⟩ : ∃ f, n = f + 1 := ⟨n - 1, by omega⟩
    obtain ⟨m, rfl⟩ : ∃ f, m = f + 1 := ⟨m - 1, by omega⟩
    refine ⟨0, u, v, Or.inl rfl, ?_, ?_, h29, h6, hu, hv, hT⟩
    · unfold jb_Machine_placeElements_10
      simp only [xs_let]
      rw [hu.1 15 (by simp), h15, if_pos (nI_le (by omega) (by omega))]; rfl
    · unfold jb_Model_instance_70
      simp only [xs_let]
      rw [if_pos (nI_le (by omega) (by omega))]
  | succ j ih =>
    intro k p e n m u v hkj hn hm hp hst h6 h29 hu hv hT
    obtain ⟨n, rfl⟩ : ∃ f, n = f + 1 := ⟨n - 1, by omega⟩
    obtain ⟨m, rfl⟩ : ∃ f, m = f + 1 := ⟨m - 1, by omega⟩
    obtain ⟨a, ha⟩ : ∃ a, l9[k]? = some a := ⟨_, List.getElem?_eq_getElem (by omega)⟩
    have hdrop : l9.drop k = a :: l9.drop (k + 1) := by
      obtain ⟨h1, h2⟩ := List.getElem?_eq_some_iff.mp ha
      rw [List.drop_eq_getElem_cons h1, h2]
    rw [hdrop] at hp
    unfold yp_rep at hp
    obtain ⟨a', q, hp1, hp⟩ := yp_thenI hp
    obtain ⟨l', r, hp2, hp⟩ := yp_thenI hp
    cases hp
    obtain ⟨x, q1, p1, hp1⟩ := yp_thenI hp1
    obtain ⟨nn, q2, p2, hp1⟩ := yp_thenI hp1
    obtain ⟨ns, q3, p3, hp1⟩ := yp_thenI hp1
    cases hp1
    have hnlen := yp_repl p3
    have hnb := yp_Nb p2
    have hpe := yp_rep_eats yp_N_eats' p3
    have hlim := hpe.2.1 hnb.2.2
    have hv8 := (hst (by omega)).2.2.2.2
    obtain ⟨y, d1, d2, d3, d4, d5⟩ := mk_place (fu := fu) (by omega) (hst (by omega)) h6 p1
    obtain ⟨s, c1, c2, c3, c4, c5⟩ := hC k _ (by omega) ha
    have c2 : u0.2.2.1 29 k = nI ns.length := c2
    have c3 : u0.2.2.2 8 k = x &&& 4294967295 := c3
    have c4 : ∀ (i : Nat) c, ns[i]? = some c → u0.2.2.1 11 (s + i) = nI (yn_c c) := c4
    have c5 : s + ns.length ≤ 8192 := c5
    obtain ⟨off, o1, o2⟩ := lN_maskE x
    rw [o2] at c3
    have y29 : (xs_I y 4 (nI q2)).1 29 = 0 := (d5.1 29 (by decide)).trans h29
    have hvy : yf_fr [4, 6, 29] [0] [28] [] v0 (xs_I y 4 (nI q2)) := yf_I (yf_trans hv (yf_mono d5 (by decide))) (by decide)
    have htp' := htp (by omega)
    have htpu : fm_Mod_tablePlaces u = some (nI tp, u) := by
      unfold fm_Mod_tablePlaces at htp' ⊢
      rw [hu.1 11 (by simp), hu.2.2.1 16 (by decide)]
      by_cases q : u0.1 11 = 0
      · rw [if_pos q] at htp' ⊢
        exact congrArg (fun z => some (z, u)) (congrArg Prod.fst (Option.some.inj htp'))
      · rw [if_neg q, if_neg (by decide)] at htp' ⊢
        exact congrArg (fun z => some (z, u)) (congrArg Prod.fst (Option.some.inj htp'))
    have hn32 := hnb.1
    have eH : jb_Machine_placeElements_10 fu (n + 1) (nI k) u = if off + ns.length ≤ tp then jb_Machine_placeElements_10 fu n (nI (k + 1)) (xs_AA u 47 (va_cpy (u0.2.2.1 11) (u.2.2.1 47) s off ns.length)) else some (5, u) := by
      conv => lhs; unfold jb_Machine_placeElements_10
      simp only [xs_let]
      rw [hu.1 15 (by simp), h15, if_neg (fun t => by have := (nI_leI (by omega) (by omega)).mp t; omega), ix65 (by omega), ix65 (by omega), show (nI k).toNatClampNeg = k from nI_clamp (by omega), hu.2.2.1 29 (by decide), c2, htpu, ys_seq, hu.2.2.2 8 (by simp), c3, nI_toL (by omega), nI_toL (by omega), lN_add2 (by omega) (by omega)]
      by_cases q : off + ns.length ≤ tp
      · rw [if_pos ((lN_le2 (by omega) (by omega)).mpr q), if_pos q, if_neg (nI_inc (by omega) (by decide)), if_neg (nI_inc (by omega) (by decide)), hu.2.2.1 28 (by decide), c1, sb_nLi (by omega), show (nI s).toNatClampNeg = s from nI_clamp (by omega), show (nI off).toNatClampNeg = off from nI_clamp (by omega), show (nI ns.length).toNatClampNeg = ns.length from nI_clamp (by omega), if_neg (by
          rintro (t | t | t | t | t)
          · exact nI_inc (k := s) (N := 100000) (by omega) (by decide) (Or.inl t)
          · exact nI_inc (k := off) (N := 100000) (by omega) (by decide) (Or.inl t)
          · exact nI_inc (k := ns.length) (N := 100000) (by omega) (by decide) (Or.inl t)
          · omega
          · omega), nI_1, hu.2.2.1 11 (by decide)]
      · rw [if_neg (fun t => q ((lN_le2 (by omega) (by omega)).mp t)), if_neg q]
    have hy24 : (xs_I y 4 (nI q2)).1 24 = nI tp := by rw [hvy.1 24 (by decide)]; exact h24
    have eM : jb_Model_instance_70 fu (m + 1) (nI l9.length) (nI k) v = if off + ns.length ≤ tp then jb_Model_instance_122 fu (jb_Model_instance_70 fu m) fu (nI l9.length) (nI k) (lN off) (lN ns.length) (lN 0) (xs_I y 4 (nI q2)) else jb_Model_instance_122 fu (jb_Model_instance_70 fu m) fu (nI l9.length) (nI k) (lN off) (lN ns.length) (lN 0) (xs_I (xs_I y 4 (nI q2)) 29 5) := by
      conv => lhs; unfold jb_Model_instance_70
      unfold jb_Model_instance_119
      simp only [xs_let]
      rw [if_neg (fun t => by have := (nI_leI (by omega) (by omega)).mp t; omega), if_pos h29, d1, ys_seq, d4, o2, mk_N (by omega) d2 d3 p2, ys_seq, hy24, ← hnlen, nI_toL (by omega), lN_add2 (by omega) (by omega)]
      by_cases q : off + ns.length ≤ tp
      · rw [if_pos ((lN_le2 (by omega) (by omega)).mpr q), if_pos q]; rfl
      · rw [if_neg (fun t => q ((lN_le2 (by omega) (by omega)).mp t)), if_neg q]; rfl
    rw [eH, eM]
    by_cases qq : off + ns.length ≤ tp
    · rw [if_pos qq, if_pos qq]
      rw [← hnlen] at p3
      obtain ⟨v2, r1, r2, r3, r4, r5, r6⟩ := mi_122 (fu := fu) (b1 := nI l9.length) (b2 := nI k) (k70 := jb_Model_instance_70 fu m) (off := off) (cnt := ns.length) (by omega) (by omega) ns 0 q2 q fu (xs_I y 4 (nI q2)) p3 (by omega) (by omega) (fun i c hc => by have := hel k _ ha i c hc; omega) (ym_mv d2 hnb.2.2) d3 y29
      rw [r1]
      unfold jb_Model_instance_161
      simp only [xs_let]
      rw [nI_1]
      have hv2 : yf_fr [4, 6, 29] [0] [28] [] v0 v2 := yf_trans hvy (yf_mono r4 (by decide))
      refine ih (k + 1) q e n m _ v2 (by omega) (by omega) (by omega) hp2 (fun _ => r2) r3 (by rw [r4.1 29 (by decide)]; exact y29) (yf_AA hu (by decide)) hv2 fun i hi => ?_
      show va_cpy (u0.2.2.1 11) (u.2.2.1 47) s off ns.length i = v2.2.2.1 28 i ∧ (va_cpy (u0.2.2.1 11) (u.2.2.1 47) s off ns.length i = -1 ∨ ∃ f, f < F.length ∧ va_cpy (u0.2.2.1 11) (u.2.2.1 47) s off ns.length i = nI f)
      by_cases ci : off ≤ i ∧ i < off + ns.length
      · have e1 : va_cpy (u0.2.2.1 11) (u.2.2.1 47) s off ns.length i = u0.2.2.1 11 (s + (i - off)) := if_pos ci
        obtain ⟨c, hc⟩ : ∃ c, ns[i - off]? = some c := ⟨_, List.getElem?_eq_getElem (by omega)⟩
        have hcF := hel k _ ha (i - off) c hc
        have r5' := r5 (i - off) c hc
        rw [show off + 0 + (i - off) = i by omega] at r5'
        rw [e1, c4 (i - off) c hc, yn_cs (by omega), r5']
        exact ⟨rfl, Or.inr ⟨c, hcF, rfl⟩⟩
      · have e1 : va_cpy (u0.2.2.1 11) (u.2.2.1 47) s off ns.length i = u.2.2.1 47 i := if_neg ci
        rw [e1, r6 i (by omega)]
        have : (xs_I y 4 (nI q2)).2.2.1 28 i = v.2.2.1 28 i := by
          show y.2.2.1 28 i = _
          rw [d5.2.2.1 28 (by simp)]
        rw [this]
        exact hT i hi
    · rw [if_neg qq, if_neg qq]
      have hne : ¬ (xs_I (xs_I y 4 (nI q2)) 29 5).1 29 = 0 := show ¬ (5 : Int32) = 0 by decide
      obtain ⟨f, hf⟩ : ∃ f, fu = f + 1 := ⟨fu - 1, by omega⟩
      have e122 : jb_Model_instance_122 fu (jb_Model_instance_70 fu m) (f + 1) (nI l9.length) (nI k) (lN off) (lN ns.length) (lN 0) (xs_I (xs_I y 4 (nI q2)) 29 5) = jb_Model_instance_70 fu m (nI l9.length) (nI (k + 1)) (xs_I (xs_I y 4 (nI q2)) 29 5) := by
        unfold jb_Model_instance_122 jb_Model_instance_161
        simp only [xs_let]
        rw [nI_1]
        split <;> first | rfl | rw [if_neg hne]
      rw [← hf] at e122
      obtain ⟨m, rfl⟩ : ∃ f, m = f + 1 := ⟨m - 1, by omega⟩
      rw [e122, mi_70e hne]
      refine ⟨5, u, xs_I (xs_I y 4 (nI q2)) 29 5, Or.inr rfl, rfl, rfl, rfl, d3, hu, yf_I hvy (by decide), fun i hi => ?_⟩
      have : (xs_I (xs_I y 4 (nI q2)) 29 5).2.2.1 28 i = v.2.2.1 28 i := by
        show y.2.2.1 28 i = _
        rw [d5.2.2.1 28 (by simp)]
      rw [this]
      exact hT i hi
end
