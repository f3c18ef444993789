section
variable {α β γ δ σ τ : Type} {B : Nat → Int32} {u v w u' v' u0 v0 u1 v1 uh um uc um1 v8 : xk_St} {T : List (Nat × List Nat × List Nat)} {F : List Nat} {G : List (Nat × Nat × Nat × Int64)} {n fu p q k j d b g m i t sz ix tc mc D len : Nat} {H H' : rH} {z h : Nat → Nat} {l10 : List sBo} {l4 l5 : List (Nat × Option Nat)} {l7 : List ((Nat × Nat) × Nat × Nat)} {n8 : Option Nat} {l9 : List (Int64 × List Nat)} {l11 : List (Int64 × Nat × Nat)} {S : Nat → Option (Nat × Nat)} {LL : Nat → List Nat} {AA : Nat → sBo} {tt : Nat → Nat}
/-- a module as the class holds it before it begins -/
def ldC (T : List (Nat × List Nat × List Nat)) (F : List Nat) (l4 l5 : List (Nat × Option Nat)) (G : List (Nat × Nat × Nat × Int64)) (l7 : List ((Nat × Nat) × Nat × Nat)) (n8 : Option Nat) (l9 : List (Int64 × List Nat)) (l11 : List (Int64 × Nat × Nat)) (w : xk_St) : Prop := (w.1 11 = nI l4.length ∧ yi_rows (fun v k (a : Nat × Option Nat) => v.2.2.1 16 k = nI (yn_c a.1) ∧ v.2.2.1 17 k = nI (yl_2 a.2)) l4 w) ∧ (w.1 12 = nI l5.length ∧ yi_rows (fun v k (a : Nat × Option Nat) => v.2.2.1 19 k = nI (yn_c a.1) ∧ v.2.2.1 20 k = nI (yl_2 a.2)) l5 w) ∧ yi_rows yi_glo G w ∧ (w.1 14 = nI l7.length ∧ yi_rows yi_exp l7 w) ∧ w.1 6 = yst_h n8 ∧ (w.1 15 = nI l9.length ∧ ∀ (k : Nat) a, k < 64 → l9[k]? = some a → ∃ s, w.2.2.1 28 k = nI s ∧ w.2.2.1 29 k = nI a.2.length ∧ w.2.2.2 8 k = a.1 &&& 4294967295 ∧ (∀ (i : Nat) c, a.2[i]? = some c → w.2.2.1 11 (s + i) = nI (yn_c c)) ∧ s + a.2.length ≤ 8192) ∧ w.1 16 = nI l11.length ∧ yi_rows yi_da l11 w
/-- what both have kept over the reading -/
def ldK (uh um : xk_St) (B : Nat → Int32) (w v8 : xk_St) : Prop := (w.2.2.1 0 = uh.2.2.1 0 ∧ w.2.2.1 1 = B ∧ w.1 0 = 0 ∧ w.1 1 = uh.1 1 ∧ w.2.2.2 0 = uh.2.2.2 0 ∧ w.1 2 = 0 ∧ w.1 3 = 0 ∧ w.1 4 = 0) ∧ (w.1 28 = 0 ∧ w.1 29 = 0 ∧ w.1 32 = 0 ∧ w.1 33 = 0 ∧ w.1 34 = 0) ∧ (∀ i, i < 65536 → w.2.2.1 46 i = 0) ∧ (w.1 30 = nI 2000 ∧ (∃ q : Nat → Nat, (∀ i, i < 2000 → w.2.2.1 44 i = nI (q i) ∧ 0 < q i ∧ q i ≤ 2000) ∧ ∀ i j, i < 2000 → j < 2000 → q i = q j → i = j) ∧ ∀ i, i < 2001 → w.2.2.1 43 i = 0) ∧ v8.2.2.1 0 = um.2.2.1 0 ∧ v8.1 1 = 0 ∧ v8.1 2 = um.1 2 ∧ v8.2.2.2 0 = um.2.2.2 0 ∧ v8.1 31 = 0 ∧ v8.1 30 = 0 ∧ v8.1 26 = 0
/-- names for what each function has -/
noncomputable def ldL (T : List (Nat × List Nat × List Nat)) (F : List Nat) (tc mc : Nat) (G : List (Nat × Nat × Nat × Int64)) (z : Nat → Nat) (l10 : List sBo) (f : Nat) : List Nat := ((l10[f]?).bind fun a => (T[F.getD f 0]?).bind fun c => sq_body T F tc mc G (z f) (F.getD f 0) c a).getD []
def ldA (l10 : List sBo) (f : Nat) : sBo := l10.getD f (0, [], [])
def ldT (F : List Nat) (f : Nat) : Nat := F.getD f 0
theorem ld_rSt (hX : yX B (yp_glo B) (S 6) G) (hV : yVz B T F l4 l5 G l7 n8 l9 l10 l11 z) (hCe : yCe T w) (hEn : sEn T F l4.length l5.length G w) (hyB : yB B n S v8) (hEM : yEM T F l4 l5 G l7 n8 v8) (hco : ∀ (f : Nat) a, l10[f]? = some a → ∃ t c L, hCo T F l4.length l5.length G (z f) f t c L a w) (hbd : ∀ (j : Nat) a, l10[j]? = some a → mBd D B T F l4.length l5.length G z j a v8) : rSt D B n T F l4.length l5.length G z (ldL T F l4.length l5.length G z l10) (ldA l10) (ldT F) w v8 := by
  refine ⟨hCe, hEn, hEM.1, mEn_of hX hV.1 hEM, hyB.1, hyB.2.1, hyB.2.2.1, fun f hf => ?_⟩
  have hl : l10.length = F.length := hV.2.1.1
  obtain ⟨a, ha⟩ : ∃ a, l10[f]? = some a := ⟨_, List.getElem?_eq_getElem (by omega)⟩
  obtain ⟨t, c, L, hc⟩ := hco f a ha
  obtain ⟨t', c', L', r2, m1, m2, m3, m4, m5, m6, m7, m8, m9, ⟨nn, m10, m11, m12⟩, m13, m14, m15, m16⟩ := hbd f a ha
  have hFt : F.getD f 0 = t := by rw [List.getD_eq_getElem?_getD, hc.1]; rfl
  have hAa : ldA l10 f = a := by unfold ldA; rw [List.getD_eq_getElem?_getD, ha]; rfl
  have hTt : ldT F f = t := hFt
  have ht' : t' = t := Option.some.inj (m1.symm.trans hc.1)
  subst ht'
  have hc' : c' = c := Option.some.inj (m2.symm.trans hc.2.1)
  subst hc'
  have hL' : L' = L := Option.some.inj (m4.symm.trans hc.2.2.2.1)
  subst hL'
  have hLL : ldL T F l4.length l5.length G z l10 f = L' := by
    unfold ldL
    rw [ha, hFt]
    show ((T[t']?).bind fun c => sq_body T F l4.length l5.length G (z f) t' c a).getD [] = L'
    rw [m2]
    show (sq_body T F l4.length l5.length G (z f) t' c' a).getD [] = L'
    rw [m4]; rfl
  have hnn : nn = n := by
    have := m10.symm.trans hyB.2.1
    exact (nI_eq (by omega) (by have := hyB.2.2.1; omega)).mp this
  subst hnn
  rw [hAa, hTt, hLL]
  refine ⟨⟨c', hc⟩, m6, r2, m7, m8, m9, m11, m13, fun j x f0 r hj hs h0 => ?_, m16⟩
  obtain ⟨q1, q2, q3⟩ := m15 j x f0 r hj hs h0
  exact ⟨q2, q3⟩
/-- the class's rows behind the checks -/
theorem ld_rows {hh : Nat → Nat} {u8 u12 : xk_St} (b4 : u8.1 11 = nI l4.length) (x4 : yi_rows (fun v k (a : Nat × Option Nat) => v.2.2.1 16 k = nI (yn_c a.1) ∧ v.2.2.1 17 k = nI (yl_2 a.2)) l4 u8) (b5 : u8.1 12 = nI l5.length) (x5 : yi_rows (fun v k (a : Nat × Option Nat) => v.2.2.1 19 k = nI (yn_c a.1) ∧ v.2.2.1 20 k = nI (yl_2 a.2)) l5 u8) (x6 : yi_rows yi_glo G u8) (b7 : u8.1 14 = nI l7.length) (x7 : yi_rows yi_exp l7 u8) (b8 : u8.1 6 = yst_h n8) (b9 : u8.1 15 = nI l9.length) (x9 : yi_rows yi_el l9 u8) (b11 : u8.1 16 = nI l11.length) (x11 : yi_rows yi_da l11 u8) (d2 : yf_fr [] [] [5] [] u8 u12) (g4 : yf_fr [19, 20, 21, 22] [] [8, 9, 10, 11, 14, 33, 34, 35, 36] [2] u12 w) (k6 : ∀ (k s : Nat) c, l9[k]? = some c → u12.2.2.1 28 k = nI s → s ≤ 8192 → s + c.2.length ≤ hh 0) (h11 : ∀ i, i < hh 0 → w.2.2.1 11 i = u12.2.2.1 11 i) : ldC T F l4 l5 G l7 n8 l9 l11 w := by
  have hI : ∀ k, k ∉ [19, 20, 21, 22] → w.1 k = u8.1 k := fun k hk => (g4.1 k hk).trans (d2.1 k (by simp))
  have hA : ∀ k, k ∉ [5, 8, 9, 10, 11, 14, 33, 34, 35, 36] → w.2.2.1 k = u8.2.2.1 k := fun k hk => (g4.2.2.1 k (by simp at hk ⊢; omega)).trans (d2.2.2.1 k (by simp at hk ⊢; omega))
  have hB : ∀ k, k ∉ [2] → w.2.2.2 k = u8.2.2.2 k := fun k hk => (g4.2.2.2 k hk).trans (d2.2.2.2 k (by simp))
  refine ⟨⟨by rw [hI 11 (by decide)]; exact b4, yi_keep x4 fun k c hk => ?_⟩, ⟨by rw [hI 12 (by decide)]; exact b5, yi_keep x5 fun k c hk => ?_⟩, yi_keep x6 fun k c hk => ?_, ⟨by rw [hI 14 (by decide)]; exact b7, yi_keep x7 fun k c hk => ?_⟩, by rw [hI 6 (by decide)]; exact b8, ⟨by rw [hI 15 (by decide)]; exact b9, fun k a hk ha => ?_⟩, by rw [hI 16 (by decide)]; exact b11, yi_keep x11 fun k c hk => ?_⟩
  · rw [hA 16 (by decide), hA 17 (by decide)]; exact hk
  · rw [hA 19 (by decide), hA 20 (by decide)]; exact hk
  · unfold yi_glo at hk ⊢
    rw [hA 21 (by decide), hA 22 (by decide), hA 23 (by decide), hB 6 (by decide)]; exact hk
  · unfold yi_exp at hk ⊢
    rw [hA 25 (by decide), hA 26 (by decide), hA 24 (by decide), hB 7 (by decide)]; exact hk
  · obtain ⟨s, m, a1, a2, a3, a4, a5, a6, a7⟩ := x9 k a hk ha
    have hs := k6 k s a ha (by rw [d2.2.2.1 28 (by decide)]; exact a1) (by omega)
    refine ⟨s, by rw [hA 28 (by decide)]; exact a1, by rw [hA 29 (by decide)]; exact a2, by rw [hB 8 (by decide)]; exact a3, fun i c hc => ?_, by omega⟩
    have hi := yl_lt hc
    rw [h11 (s + i) (by omega), d2.2.2.1 11 (by decide)]
    exact a4 i c hc
  · unfold yi_da at hk ⊢
    rw [hA 31 (by decide), hA 32 (by decide), hB 9 (by decide)]; exact hk
/-- what was kept -/
theorem ld_kept (hr : rB uh um) (hc : yf_fr [0, 2, 3, 4, 5, 6, 7, 8, 9, 10, 11, 12, 13, 14, 15, 16, 28, 29, 30, 32, 33, 34] [] [44, 46] [] uh uc) (c0 : uc.1 0 = 0 ∧ uc.1 2 = 0 ∧ uc.1 3 = 0 ∧ uc.1 4 = 0) (c5 : uc.1 28 = 0 ∧ uc.1 29 = 0 ∧ uc.1 32 = 0 ∧ uc.1 33 = 0 ∧ uc.1 34 = 0) (c6 : ∀ i, i < 65536 → uc.2.2.1 46 i = 0) (c7 : uc.1 30 = nI 2000) (c8 : ∃ q : Nat → Nat, (∀ i, i < 2000 → uc.2.2.1 44 i = nI (q i) ∧ 0 < q i ∧ q i ≤ 2000) ∧ ∀ i j, i < 2000 → j < 2000 → q i = q j → i = j) (c9 : ∀ i, i < 2001 → uc.2.2.1 43 i = 0) (hu : yf_fr [5, 6, 7, 8, 9, 10, 11, 12, 13, 14, 15, 16, 17, 18, 19, 20, 21, 22] [] [2, 3, 4, 5, 6, 7, 8, 9, 10, 11, 12, 13, 14, 16, 17, 19, 20, 21, 22, 23, 24, 25, 26, 28, 29, 31, 32, 33, 34, 35, 36] [2, 6, 7, 8, 9] (xs_I (xs_I (xs_AA uc 1 B) 17 0) 18 (nI n)) w) (hm : yf_fr [0, 3] [] [1] [] um um1) (hv : yf_fr [4, 5, 6, 7, 8, 9, 10, 11, 12, 13, 14, 15, 16, 17, 18, 19, 20, 21, 22, 23, 24] [0, 1] [2, 3, 4, 5, 6, 7, 8, 9, 10, 11, 12, 13, 14, 15, 16, 17, 18, 19, 20, 21, 22, 23, 24, 25, 26] [1, 2] (xs_I (xs_I (xs_I (xs_I um1 1 0) 25 0) 31 0) 30 0) v8) : ldK uh um B w v8 := by
  have b26 : um.1 26 = 0 := hr.2.2.2.2.2.2.1
  refine ⟨⟨?_, ?_, ?_, ?_, ?_, ?_, ?_, ?_⟩, ⟨?_, ?_, ?_, ?_, ?_⟩, fun i hi => ?_, ⟨?_, ?_, fun i hi => ?_⟩, ?_, ?_, ?_, ?_, ?_, ?_, ?_⟩
  · rw [hu.2.2.1 0 (by decide)]; exact hc.2.2.1 0 (by decide)
  · rw [hu.2.2.1 1 (by decide)]; rfl
  · rw [hu.1 0 (by decide)]; exact c0.1
  · rw [hu.1 1 (by decide)]; exact hc.1 1 (by decide)
  · rw [hu.2.2.2 0 (by decide)]; exact hc.2.2.2 0 (by simp)
  · rw [hu.1 2 (by decide)]; exact c0.2.1
  · rw [hu.1 3 (by decide)]; exact c0.2.2.1
  · rw [hu.1 4 (by decide)]; exact c0.2.2.2
  · rw [hu.1 28 (by decide)]; exact c5.1
  · rw [hu.1 29 (by decide)]; exact c5.2.1
  · rw [hu.1 32 (by decide)]; exact c5.2.2.1
  · rw [hu.1 33 (by decide)]; exact c5.2.2.2.1
  · rw [hu.1 34 (by decide)]; exact c5.2.2.2.2
  · rw [hu.2.2.1 46 (by decide)]; exact c6 i hi
  · rw [hu.1 30 (by decide)]; exact c7
  · obtain ⟨q, q1, q2⟩ := c8
    refine ⟨q, fun i hi => ?_, q2⟩
    rw [hu.2.2.1 44 (by decide)]; exact q1 i hi
  · rw [hu.2.2.1 43 (by decide)]; exact c9 i hi
  · rw [hv.2.2.1 0 (by decide)]; exact hm.2.2.1 0 (by decide)
  · rw [hv.1 1 (by decide)]; rfl
  · rw [hv.1 2 (by decide)]; exact hm.1 2 (by decide)
  · rw [hv.2.2.2 0 (by decide)]; exact hm.2.2.2 0 (by simp)
  · rw [hv.1 31 (by decide)]; rfl
  · rw [hv.1 30 (by decide)]; rfl
  · rw [hv.1 26 (by decide)]
    show um1.1 26 = 0
    rw [hm.1 26 (by decide)]; exact b26
/-- a module is read and checked by both, or fails by both -/
theorem ld_mod (hfu : 70000 < fu) (hr : rB uh um) : (∃ r uh' um', fm_House_load fu uh = some (r, uh') ∧ fm_Model_load fu um = some (r, um') ∧ rB uh' um' ∧ uh'.1 4 = 0 ∧ um'.1 25 = 0) ∨ ∃ n T F l4 l5 G l7 n8 l9 l10 l11 S z LL AA tt w v8 n', n ≤ 8192 ∧ fm_House_load fu uh = jb_House_load_70 fu (n' + 1) (nI F.length) w ∧ fm_Model_load fu um = (xs_seq (fm_Model_instance fu v8) fun _ u9 => some ((u9.1 29), u9)) ∧ rSt 8193 (ldB uh n) n T F l4.length l5.length G z LL AA tt w v8 ∧ yMod 8193 (ldB uh n) S T F l4 l5 G l7 n8 l9 l10 l11 ∧ yVz (ldB uh n) T F l4 l5 G l7 n8 l9 l10 l11 z ∧ yB (ldB uh n) n S v8 ∧ yEM T F l4 l5 G l7 n8 v8 ∧ ldC T F l4 l5 G l7 n8 l9 l11 w ∧ ldK uh um (ldB uh n) w v8 ∧ (∀ f, F[f]? = some (tt f) ∨ F.length ≤ f) ∧ v8.1 7 = 0 := by
  obtain ⟨n, uc, um1, hn, e1, hc, c0, c4, c5, c6, c7, c8, c9, e2, hm, m0, m3, mB⟩ := ld_take hfu hr
  have b26 : um.1 26 = 0 := hr.2.2.2.2.2.2.1
  generalize hBB : ldB uh n = B at *
  let u3 : xk_St := xs_I (xs_I (xs_AA uc 1 B) 17 0) 18 (nI n)
  have hst3 : yh_st B n 0 u3 := ⟨rfl, rfl, rfl, Nat.zero_le _, hn⟩
  have hD3 : yDall 8193 B yS_0 u3 := hl_D0 c4 rfl
  have hrd := hh_head (B := B) (D := 8193) (fu := fu) (len := n) (by decide) (by omega) (by omega) hn 8 0 0 fu u3 (by decide) (by omega) hst3 hD3
  have hwk := mm_walk (B := B) (D := 8193) (fu := fu) (len := n) (u := xs_I (xs_I (xs_I (xs_I um1 1 0) 25 0) 31 0) 30 0) (by decide) (by omega) hn mB m3
  rw [e1, e2]
  have hF0 : hFr uc := ld_hF c7 c8 c9
  have hM0 : hMz uc := ld_hM c5.2.2.2.1 c6
  have hrd0 : ∀ r x, jb_Reader_readModule_23 fu fu (nI n) 0 u3 = some (r, x) → yf_fr [5, 6, 7, 8, 9, 10, 11, 12, 13, 14, 15, 16, 17, 18] [] [2, 3, 4, 6, 7, 8, 9, 11, 12, 13, 16, 17, 19, 20, 21, 22, 23, 24, 25, 26, 28, 29, 31, 32] [2, 6, 7, 8, 9] u3 x := fun r x hx => yf_jb_Reader_readModule_23 _ _ hx
  unfold mLd
  rcases hwk with ⟨ss, q, r, v7, s1, s2, s6, s7, s8, s9⟩ | ⟨k, r, v7, s1, s2, s6⟩
  · have hfv7 := yf_fm_Model_walk _ _ s2
    rw [s2, ys_seq, if_pos s6]
    have hrd' : yC 0 (jb_Reader_readModule_23 fu fu (nI n) 0 u3) (yp_mod 8193 B n) (yJ B n fun ss _ z => yDall 8193 B (yS_ext yS_0 ss) z) := hrd
    rw [s1] at hrd'
    obtain ⟨b', u8, t2, t3, t4⟩ : ∃ b' u8, jb_Reader_readModule_23 fu fu (nI n) 0 u3 = some (.inl b', u8) ∧ yh_st B n q u8 ∧ yDall 8193 B (yS_ext yS_0 ss) u8 := by
      rcases hrd' with ⟨ss', q', t1, -, b', u8, t2, t3, t4⟩ | ⟨k, x, t1, -⟩
      · cases t1
        exact ⟨b', u8, t2, t3, t4⟩
      · cases t1
    have hfu8 := hrd0 _ _ t2
    have t2' : jb_Reader_readModule_23 fu fu (nI n) 0 (xs_I (xs_I (xs_AA uc 1 B) 17 0) 18 (nI n)) = some (.inl b', u8) := t2
    rw [t2', ys_catl]
    have hSle := mod_le s1
    generalize hS : yS_ext yS_0 ss = S at *
    have t4k := t4
    obtain ⟨⟨T, a1, b1, x1⟩, ⟨F, a3, b3, x3⟩, ⟨l4, a4, b4, x4⟩, ⟨l5, a5, b5, x5⟩, ⟨G, a6, b6, x6⟩, ⟨l7, a7, b7, x7⟩, ⟨n8, a8, b8⟩, ⟨l9, a9, b9, x9⟩, ⟨l10, a10, b10, x10⟩, ⟨l11, a11, b11, x11⟩, -, -⟩ := t4k
    have hMod : yMod 8193 B S T F l4 l5 G l7 n8 l9 l10 l11 := ⟨a1, a3, a4, a5, a6, a7, a8, a9, a10, a11⟩
    have hB8 : u8.2.2.1 1 = B := t3.1
    have hyB : yB B n S v7 := ⟨s8, s7, hn, s9, hSle, s6⟩
    obtain ⟨P1, P2⟩ := hh_parts (fu := fu) (by omega) hMod t4 hB8
    by_cases cV : yVp B T F l4 l5 G l7 n8 l9 l10.length l11
    · obtain ⟨u12, d1, d2, d3⟩ := P1 cV
      rw [d1, ys_catl]
      obtain ⟨hh, k1, k2, k3, k4, k5, k6⟩ := hc_pre hMod t4 cV d2 d3
      have hlF : l10.length = F.length := cV.2.2.2.2.2.2.2.2.1
      have hTD := mm_td (fu := fu) (z := hZ u12) (by omega) hMod hyB
      have hFF : F.length ≤ 64 := cV.2.1.1
      have hkF : yf_fr [5, 6, 7, 8, 9, 10, 11, 12, 13, 14, 15, 16, 17, 18] [] [2, 3, 4, 5, 6, 7, 8, 9, 11, 12, 13, 16, 17, 19, 20, 21, 22, 23, 24, 25, 26, 28, 29, 31, 32] [2, 6, 7, 8, 9] u3 u12 := yf_trans (yf_mono hfu8 (by decide)) (yf_mono d2 (by decide))
      rcases hc_allF (fu := fu) (T := T) (F := F) (tc := l4.length) (mc := l5.length) (G := G) (z := hZ u12) (h := hh) (by omega) k1 k2 k3 hlF k4 k5 l10.length 0 fu u12 (by omega) (by omega) yf_refl sIv_0 with ⟨g1, w, n', g2, g3, g4⟩ | ⟨g1, w, g2, g4⟩
      · -- it goes on
        have hVz : yVz B T F l4 l5 G l7 n8 l9 l10 l11 (hZ u12) := yVz_p.mpr ⟨cV, fun j a ha => g1 j a (Nat.zero_le _) ha⟩
        obtain ⟨v8, m1, m2, m3', m4, m5, m6⟩ := hTD.1 hVz
        rw [m1, ys_seq, if_pos m2]
        have g2' : jb_House_load_70 fu fu 0 u12 = jb_House_load_70 fu (n' + 1) (nI l10.length) w := g2
        rw [g2', hlF]
        have hwf : yf_fr [5, 6, 7, 8, 9, 10, 11, 12, 13, 14, 15, 16, 17, 18, 19, 20, 21, 22] [] [2, 3, 4, 5, 6, 7, 8, 9, 10, 11, 12, 13, 14, 16, 17, 19, 20, 21, 22, 23, 24, 25, 26, 28, 29, 31, 32, 33, 34, 35, 36] [2, 6, 7, 8, 9] u3 w := yf_trans (yf_mono hkF (by decide)) (yf_mono g4 (by decide))
        have hvf : yf_fr [4, 5, 6, 7, 8, 9, 10, 11, 12, 13, 14, 15, 16, 17, 18, 19, 20, 21, 22, 23, 24] [0, 1] [2, 3, 4, 5, 6, 7, 8, 9, 10, 11, 12, 13, 14, 15, 16, 17, 18, 19, 20, 21, 22, 23, 24, 25, 26] [1, 2] (xs_I (xs_I (xs_I (xs_I um1 1 0) 25 0) 31 0) 30 0) v8 := yf_trans (yf_mono hfv7 (by decide)) (yf_mono m6 (by decide))
        have hCo := fun (f : Nat) (a : sBo) (ha : l10[f]? = some a) => hs_code k4 k5 g3 ha
        have hSt := ld_rSt (D := 8193) a6 hVz (yCe_fr k1 g4 (by decide)) (sEn_fr k2 g4 (by decide)) m3' m4 hCo m5
        have hRow := ld_rows (T := T) (F := F) (hh := hh) b4 x4 b5 x5 x6 b7 x7 b8 b9 x9 b11 x11 d2 g4 k6 (fun i hi => g3.2.2.2.2.1 i (Or.inl hi))
        have hKp : ldK uh um B w v8 := ld_kept hr hc c0 c5 c6 c7 c8 c9 hwf hm hvf
        subst hBB
        refine Or.inr ⟨n, T, F, l4, l5, G, l7, n8, l9, l10, l11, S, hZ u12, _, _, _, w, v8, n', hn, rfl, rfl, hSt, hMod, hVz, m3', m4, hRow, hKp, fun f => ?_, m2⟩
        by_cases cf : f < F.length
        · refine Or.inl ?_
          unfold ldT
          rw [List.getD_eq_getElem?_getD, List.getElem?_eq_getElem cf]; rfl
        · exact Or.inr (by omega)
      · have hVz : ¬ yVz B T F l4 l5 G l7 n8 l9 l10 l11 (hZ u12) := fun y => g1 fun j a _ ha => (yVz_p.mp y).2 j a ha
        obtain ⟨v8, m1, m2, m6⟩ := hTD.2 hVz
        have g2' : jb_House_load_70 fu fu 0 u12 = some (-2, w) := g2
        rw [m1, ys_seq, if_neg (by rw [m2]; decide), g2']
        have hwf : yf_fr [5, 6, 7, 8, 9, 10, 11, 12, 13, 14, 15, 16, 17, 18, 19, 20, 21, 22] [] [2, 3, 4, 5, 6, 7, 8, 9, 10, 11, 12, 13, 14, 16, 17, 19, 20, 21, 22, 23, 24, 25, 26, 28, 29, 31, 32, 33, 34, 35, 36] [2, 6, 7, 8, 9] u3 w := yf_trans (yf_mono hkF (by decide)) (yf_mono g4 (by decide))
        have hvf : yf_fr [4, 5, 6, 7, 8, 9, 10, 11, 12, 13, 14, 15, 16, 17, 18, 19, 20, 21, 22, 23, 24] [0, 1] [2, 3, 4, 5, 6, 7, 8, 9, 10, 11, 12, 13, 14, 15, 16, 17, 18, 19, 20, 21, 22, 23, 24, 25, 26] [1, 2] (xs_I (xs_I (xs_I (xs_I um1 1 0) 25 0) 31 0) 30 0) v8 := yf_trans (yf_mono hfv7 (by decide)) (yf_mono m6 (by decide))
        subst hBB
        exact Or.inl ⟨-2, w, v8, rfl, rfl, ld_fail hr hc c0 c5.1 hF0 hM0 hwf hm mB hvf⟩
    · obtain ⟨u12, d1, d2⟩ := P2 cV
      obtain ⟨v8, m1, m2, m6⟩ := (mm_td (fu := fu) (z := fun _ => 0) (by omega) hMod hyB).2 (fun y => cV (yVz_p.mp y).1)
      rw [d1, ys_catr, if_pos rfl, m1, ys_seq, if_neg (by rw [m2]; decide)]
      have hwf : yf_fr [5, 6, 7, 8, 9, 10, 11, 12, 13, 14, 15, 16, 17, 18, 19, 20, 21, 22] [] [2, 3, 4, 5, 6, 7, 8, 9, 10, 11, 12, 13, 14, 16, 17, 19, 20, 21, 22, 23, 24, 25, 26, 28, 29, 31, 32, 33, 34, 35, 36] [2, 6, 7, 8, 9] u3 u12 := yf_trans (yf_mono hfu8 (by decide)) (yf_mono d2 (by decide))
      have hvf : yf_fr [4, 5, 6, 7, 8, 9, 10, 11, 12, 13, 14, 15, 16, 17, 18, 19, 20, 21, 22, 23, 24] [0, 1] [2, 3, 4, 5, 6, 7, 8, 9, 10, 11, 12, 13, 14, 15, 16, 17, 18, 19, 20, 21, 22, 23, 24, 25, 26] [1, 2] (xs_I (xs_I (xs_I (xs_I um1 1 0) 25 0) 31 0) 30 0) v8 := yf_trans (yf_mono hfv7 (by decide)) (yf_mono m6 (by decide))
      subst hBB
      exact Or.inl ⟨-2, u12, v8, rfl, rfl, ld_fail hr hc c0 c5.1 hF0 hM0 hwf hm mB hvf⟩
  · have hfv7 := yf_fm_Model_walk _ _ s2
    have hk1 := y1_mod (D := 8193) (B := B) (len := n) k s1
    have hrd' : yC 0 (jb_Reader_readModule_23 fu fu (nI n) 0 u3) (yp_mod 8193 B n) (yJ B n fun ss _ z => yDall 8193 B (yS_ext yS_0 ss) z) := hrd
    rw [s1] at hrd'
    obtain ⟨x, t2⟩ : ∃ x, jb_Reader_readModule_23 fu fu (nI n) 0 u3 = some (.inr k, x) := by
      rcases hrd' with ⟨ss', q', t1, -⟩ | ⟨k', x, t1, t2⟩
      · cases t1
      · cases t1
        exact ⟨x, t2⟩
    have hfx := hrd0 _ _ t2
    have t2' : jb_Reader_readModule_23 fu fu (nI n) 0 (xs_I (xs_I (xs_AA uc 1 B) 17 0) 18 (nI n)) = some (.inr k, x) := t2
    rw [s2, ys_seq, if_neg (by rw [s6]; exact ym_c0), t2', ys_catr, s6]
    have hwf : yf_fr [5, 6, 7, 8, 9, 10, 11, 12, 13, 14, 15, 16, 17, 18, 19, 20, 21, 22] [] [2, 3, 4, 5, 6, 7, 8, 9, 10, 11, 12, 13, 14, 16, 17, 19, 20, 21, 22, 23, 24, 25, 26, 28, 29, 31, 32, 33, 34, 35, 36] [2, 6, 7, 8, 9] u3 x := yf_mono hfx (by decide)
    have hvf : yf_fr [4, 5, 6, 7, 8, 9, 10, 11, 12, 13, 14, 15, 16, 17, 18, 19, 20, 21, 22, 23, 24] [0, 1] [2, 3, 4, 5, 6, 7, 8, 9, 10, 11, 12, 13, 14, 15, 16, 17, 18, 19, 20, 21, 22, 23, 24, 25, 26] [1, 2] (xs_I (xs_I (xs_I (xs_I um1 1 0) 25 0) 31 0) 30 0) v7 := yf_mono hfv7 (by decide)
    subst hBB
    refine Or.inl ⟨ym_c k, x, v7, ?_, rfl, ld_fail hr hc c0 c5.1 hF0 hM0 hwf hm mB hvf⟩
    unfold ym_c
    by_cases q0 : k = 0
    · rw [if_pos q0, if_pos q0]
    · rw [if_neg q0, if_neg q0, if_pos (by omega)]
end
