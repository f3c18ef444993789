section
variable {α β γ δ σ τ : Type} {B : Nat → Int32} {u v w u' v' u0 v0 u1 v1 uh um : xk_St} {T : List (Nat × List Nat × List Nat)} {F : List Nat} {G : List (Nat × Nat × Nat × Int64)} {n fu p q k j d b g m i t tc mc D f tn : Nat} {H H' : rH} {z : Nat → Nat} {LL : Nat → List Nat} {AA : Nat → sBo} {tt : Nat → Nat} {x a1 : Int32} {y : Int64}
theorem rIn_f {I J A C I' J' A' C' : List Nat} (h : rIn u v) (hu : yf_fr I J A C u u') (hd : (yf_no [7, 10, 11, 12, 13, 14, 29, 30, 32, 33, 34] I && yf_no [1, 2, 3, 4, 5, 6, 7, 8, 9, 10, 11, 12, 13, 14, 16, 21, 22, 24, 25, 26, 38, 39, 40, 41, 42, 43, 44, 46, 47] A && yf_no [2, 7, 11, 12] C) = true) (hv : yf_fr I' J' A' C' v v') (hd' : (yf_no [3, 12, 13, 14, 15, 16, 17, 18, 19, 24, 32, 34] I' && yf_no [1, 4, 5, 6, 7, 8, 9, 10, 12, 13, 14, 15, 16, 17, 18, 19, 20, 21, 27, 28, 37, 38, 39, 42] A' && yf_no [2, 5] C') = true) : rIn u' v' := by
  have sub : ∀ {K K' M : List Nat}, yf_no K M = true → (∀ k, k ∈ K' → k ∈ K) → yf_no K' M = true := fun h1 h2 => List.all_eq_true.mpr fun k hk => List.all_eq_true.mp h1 k (h2 k hk)
  have e0 := Bool.and_eq_true_iff.mp hd
  have e1 := Bool.and_eq_true_iff.mp e0.1
  have g0 := Bool.and_eq_true_iff.mp hd'
  have g1 := Bool.and_eq_true_iff.mp g0.1
  obtain ⟨D, B, n, T, F, tc, mc, G, l7, z, LL, AA, tt, H, h1, h2, h3, h4, h5⟩ := h
  refine ⟨D, B, n, T, F, tc, mc, G, l7, z, LL, AA, tt, H, rSt_fv (rSt_fu h1 hu ?_) hv ?_, RD_fv (RD_fu h2 hu ?_) hv ?_, by rw [hu.2.2.1 1 (yf_nok e1.2 (by simp))]; exact h3, rEx_f h4 hu ?_ hv ?_, h5⟩
  · exact Bool.and_eq_true_iff.mpr ⟨Bool.and_eq_true_iff.mpr ⟨sub e1.1 (by simp), sub e1.2 (by simp)⟩, sub e0.2 (by simp)⟩
  · exact Bool.and_eq_true_iff.mpr ⟨sub g1.1 (by simp), sub g1.2 (by simp)⟩
  · exact Bool.and_eq_true_iff.mpr ⟨Bool.and_eq_true_iff.mpr ⟨sub e1.1 (by simp), sub e1.2 (by simp)⟩, sub e0.2 (by simp)⟩
  · exact Bool.and_eq_true_iff.mpr ⟨Bool.and_eq_true_iff.mpr ⟨sub g1.1 (by simp), sub g1.2 (by simp)⟩, sub g0.2 (by simp)⟩
  · exact Bool.and_eq_true_iff.mpr ⟨Bool.and_eq_true_iff.mpr ⟨sub e1.1 (by simp), sub e1.2 (by simp)⟩, sub e0.2 (by simp)⟩
  · exact Bool.and_eq_true_iff.mpr ⟨sub g1.1 (by simp), sub g1.2 (by simp)⟩
/-- calls that change nothing but what they tell -/
theorem rRel_k {x0 : Int64} {t : Int32} (h : rRel uh um) : rRel (xs_B uh 13 0 x0) (xs_I um 0 t) ∧ rRel uh (xs_I um 0 t) := by
  have hu : yf_fr [] [] [] [13] uh (xs_B uh 13 0 x0) := yf_B yf_refl (by decide)
  have hv : yf_fr [0] [] [] [] um (xs_I um 0 t) := yf_I yf_refl (by decide)
  obtain ⟨hB, hI⟩ := h
  refine ⟨⟨hB, ?_⟩, ⟨hB, ?_⟩⟩
  · rcases hI with a | ⟨a1, a2, a3⟩
    · exact Or.inl a
    · exact Or.inr ⟨a1, a2, rIn_f a3 hu (by decide) hv (by decide)⟩
  · rcases hI with a | ⟨a1, a2, a3⟩
    · exact Or.inl a
    · exact Or.inr ⟨a1, a2, rIn_f a3 (I := []) (J := []) (A := []) (C := []) yf_refl (by decide) hv (by decide)⟩
theorem rRel_b {x0 : Int64} (h : rRel uh um) : rRel (xs_B uh 13 0 x0) um := by
  have hu : yf_fr [] [] [] [13] uh (xs_B uh 13 0 x0) := yf_B yf_refl (by decide)
  obtain ⟨hB, hI⟩ := h
  refine ⟨hB, ?_⟩
  rcases hI with a | ⟨a1, a2, a3⟩
  · exact Or.inl a
  · exact Or.inr ⟨a1, a2, rIn_f a3 hu (by decide) (I' := []) (J' := []) (A' := []) (C' := []) yf_refl (by decide)⟩
theorem by8_t {z : Int32} : by8 (vp_nar .byte z.toInt8.toInt32) := by
  rw [pk_vb]
  show z.toInt8.toInt32.toInt8.toInt32 = z.toInt8.toInt32
  have := pk_vb z
  rw [vp_nar_byte] at this
  exact this
/-- bytes are fed -/
theorem fd_loop {L c : Nat} {xx : Int64} (hL : L + c ≤ 8192) (hc : c ≤ 8) : ∀ (j i nn mm : Nat) (u v : xk_St), i + j = c → j < nn → j < mm → u.1 0 = nI L → v.1 1 = nI L → u.2.2.1 0 = v.2.2.1 0 → (∀ i, by8 (u.2.2.1 0 i)) → ∃ u' v', jb_House_feed_42 fu nn (nI c) xx (nI i) u = some (.inl (nI (L + c)), u') ∧ jb_Model_feed_55 fu mm (nI c) xx (nI i) v = some (nI (L + c), v') ∧ u'.1 0 = nI (L + c) ∧ v'.1 1 = nI (L + c) ∧ yf_fr [0] [] [0] [] u u' ∧ yf_fr [1] [] [0] [] v v' ∧ u'.2.2.1 0 = v'.2.2.1 0 ∧ ∀ i, by8 (u'.2.2.1 0 i) := by
  intro j
  induction j with
  | zero =>
    intro i nn mm u v hij hn hm h0 h1 hA hb
    obtain ⟨nn, rfl⟩ : ∃ f, nn = f + 1 := ⟨nn - 1, by omega⟩
    obtain ⟨mm, rfl⟩ : ∃ f, mm = f + 1 := ⟨mm - 1, by omega⟩
    refine ⟨xs_I u 0 (nI (L + c)), xs_I v 1 (nI (L + c)), ?_, ?_, rfl, rfl, yf_I yf_refl (by decide), yf_I yf_refl (by decide), hA, hb⟩
    · unfold jb_House_feed_42
      simp only [xs_let]
      rw [if_pos (nI_le (by omega) (by omega)), h0, nI_add]; rfl
    · unfold jb_Model_feed_55
      simp only [xs_let]
      rw [if_pos (nI_le (by omega) (by omega)), h1, nI_add]; rfl
  | succ j ih =>
    intro i nn mm u v hij hn hm h0 h1 hA hb
    obtain ⟨nn, rfl⟩ : ∃ f, nn = f + 1 := ⟨nn - 1, by omega⟩
    obtain ⟨mm, rfl⟩ : ∃ f, mm = f + 1 := ⟨mm - 1, by omega⟩
    have hsh := by_sh (s := 8 * i) xx (by omega)
    obtain ⟨u', v', r1, r2, r3, r4, r5, r6, r7, r8⟩ := ih (i + 1) nn mm (xs_A u 0 (L + i) (vp_nar .byte ((((xx.toUInt64 >>> ((nI (8 * i)).toInt64.toUInt64 &&& Int64.toUInt64 63)).toInt64).toInt32).toInt8.toInt32))) (xs_A v 0 (L + i) (vp_nar .byte ((xx >>> ((nI (8 * i)).toInt64 &&& 63)).toInt32.toInt8.toInt32))) (by omega) (by omega) (by omega) h0 h1 (by
      show upd (u.2.2.1 0) (L + i) _ = upd (v.2.2.1 0) (L + i) _
      rw [hA, hsh]) (fun x => by
      show by8 (upd (u.2.2.1 0) (L + i) _ x)
      by_cases q : x = L + i
      · rw [q, ya_t]; exact by8_t
      · rw [ya_j q]; exact hb x)
    refine ⟨u', v', ?_, ?_, r3, r4, yf_trans (yf_A yf_refl (by decide)) r5, yf_trans (yf_A yf_refl (by decide)) r6, r7, r8⟩
    · rw [← r1]
      conv => lhs; unfold jb_House_feed_42
      rw [xl_eq, if_neg (fun t => by have := (nI_leI (by omega) (by omega)).mp t; omega), h0, nI_add, ix8192 (by omega), show (nI (L + i)).toNatClampNeg = L + i from nI_clamp (by omega), n8_mul i (by omega), xl_eq, xl_eq, nI_1]
    · rw [← r2]
      conv => lhs; unfold jb_Model_feed_55
      rw [xl_eq, if_neg (fun t => by have := (nI_leI (by omega) (by omega)).mp t; omega), h1, nI_add, ix8192 (by omega), show (nI (L + i)).toNatClampNeg = L + i from nI_clamp (by omega), n8_mul i (by omega), xl_eq, xl_eq, nI_1]
theorem mf_fails0 {x1 : Int32} : fm_Model_fails 0 x1 v = some (0, xs_I v 0 0) := rfl
theorem mf_fails1 {x1 : Int32} : fm_Model_fails 1 x1 v = some (1, xs_I v 0 x1) := rfl
theorem zz0 : ¬ ((0 : Int32) < 0 ∨ 1 ≤ (0 : Int32).toNatClampNeg) := by decide
theorem z00 : (0 : Int32).toNatClampNeg = 0 := by decide
theorem q_feed (hfu : 100 < fu) (h : rRel uh um) : ∃ (k b : Int32) (vh vm : xk_St), fm_Law_feed fu a1 y uh = some (k, vh) ∧ fm_Model_feed fu a1 y um = some (b, vm) ∧ vm.1 0 = k ∧ (k = 0 → vh.2.2.2 13 0 = b.toInt64) ∧ rRel vh vm := by
  unfold fm_Law_feed fm_House_feed fm_Model_feed fm_Model_in
  have c1 : a1.toInt64 < 1 ↔ a1 < 1 := by
    rw [Int64.lt_iff_toInt_lt, Int32.lt_iff_toInt_lt, Int32.toInt_toInt64]; rfl
  have c8 : (8 : Int64) < a1.toInt64 ↔ ¬ a1 ≤ 8 := by
    rw [Int64.lt_iff_toInt_lt, Int32.le_iff_toInt_le, Int32.toInt_toInt64]
    show (8 : Int) < _ ↔ ¬ _ ≤ (8 : Int)
    omega
  have bad : ∃ (k b : Int32) (vh vm : xk_St), (xs_cat (some ((.inr 0 : Int32 ⊕ Nat), uh)) (fun k3 u4 => if k3 = 0 then (some ((1 : Int32), u4)) else if k3 = 2 then (some ((2 : Int32), u4)) else none) fun a1 u2 => if (0 : Int32) < 0 ∨ 1 ≤ (0 : Int32).toNatClampNeg then none else xs_let (xs_B u2 13 (0 : Int32).toNatClampNeg (a1.toInt64)) fun u6 => some ((0 : Int32), u6)) = some (k, vh) ∧ jb_Model_feed_18 fu a1 y 1 um = some (b, vm) ∧ vm.1 0 = k ∧ (k = 0 → vh.2.2.2 13 0 = b.toInt64) ∧ rRel vh vm := by
    refine ⟨1, 0, uh, xs_I um 0 1, rfl, ?_, rfl, fun t => absurd t (by decide), (rRel_k (x0 := 0) h).2⟩
    unfold jb_Model_feed_18
    rw [mf_fails1, ys_seq, if_neg (by decide)]
  by_cases q1 : a1 < 1
  · rw [if_pos q1, if_pos (c1.mpr q1), ys_seq, if_pos rfl]
    exact bad
  · rw [if_neg q1, if_neg (fun t => q1 (c1.mp t))]
    by_cases q8 : a1 ≤ 8
    · rw [if_pos q8, if_neg (fun t => c8.mp t q8), ys_seq, if_neg (show ¬ (1 : Int32) = 0 by decide)]
      obtain ⟨hB, hI⟩ := id h
      obtain ⟨⟨b1, b2, b3, b4⟩, ⟨L, L1, L2, L3⟩, hr⟩ := hB
      obtain ⟨c, hc, hc8⟩ : ∃ c, a1 = nI c ∧ c ≤ 8 := by
        refine ⟨a1.toInt.toNat, ?_, ?_⟩
        · apply Int32.toInt_inj.mp
          have h1 : ¬ a1.toInt < 1 := fun t => q1 (Int32.lt_iff_toInt_lt.mpr t)
          have h2 : a1.toInt ≤ 8 := Int32.le_iff_toInt_le.mp q8
          rw [pkT32 (by omega)]
          omega
        · have h2 : a1.toInt ≤ 8 := Int32.le_iff_toInt_le.mp q8
          omega
      subst hc
      unfold jb_Model_feed_18
      rw [mf_fails0, ys_seq, if_pos rfl]
      have w1 : (xs_I um 0 0).1 1 = nI L := L3
      rw [w1, L2, nI_add]
      by_cases q : L + c ≤ 8192
      · rw [if_pos (show nI (L + c) ≤ (8192 : Int32) from nI_le (b := 8192) (by omega) (by omega)), if_pos (show nI (L + c) ≤ (8192 : Int32) from nI_le (b := 8192) (by omega) (by omega))]
        unfold jb_Model_feed_43
        rw [mf_fails0, ys_seq, if_pos rfl]
        obtain ⟨u', v', r1, r2, r3, r4, r5, r6, r7, r8⟩ := fd_loop (fu := fu) (L := L) (c := c) (xx := y) q hc8 c 0 fu fu uh (xs_I (xs_I um 0 0) 0 0) (by omega) (by omega) (by omega) L2 L3 b1 b3
        have r1' : jb_House_feed_42 fu fu (nI c) y 0 uh = _ := r1
        have r2' : jb_Model_feed_55 fu fu (nI c) y 0 (xs_I (xs_I um 0 0) 0 0) = _ := r2
        rw [r1', r2', ys_catl, if_neg zz0, z00]
        have hv : yf_fr [0, 1] [] [0] [] um v' := yf_trans (yf_I (yf_I yf_refl (by decide)) (by decide)) (yf_mono r6 (by decide))
        refine ⟨0, nI (L + c), _, v', rfl, rfl, by rw [r6.1 0 (by decide)]; rfl, fun _ => rfl, rRel_b ⟨⟨⟨r7, by rw [r5.2.2.1 1 (by decide), hv.2.2.1 1 (by decide)]; exact b2, r8, fun i => by rw [r5.2.2.1 1 (by decide)]; exact b4 i⟩, ⟨L + c, q, r3, r4⟩, ?_⟩, ?_⟩⟩
        · obtain ⟨⟨g, g1, g2, g3, g4⟩, ⟨rr, s1, s2, s3, s4⟩, t3, t28, t26, tF, tM⟩ := hr
          refine ⟨⟨g, g1, by rw [r5.1 1 (by decide)]; exact g2, by rw [hv.1 2 (by decide)]; exact g3, fun i hi => by rw [r5.2.2.2 0 (by simp), hv.2.2.2 0 (by simp)]; exact g4 i hi⟩, ⟨rr, s1, by rw [r5.1 2 (by decide)]; exact s2, by rw [hv.1 31 (by decide)]; exact s3, fun i hi => by rw [r5.2.2.2 1 (by simp), hv.2.2.2 4 (by simp)]; exact s4 i hi⟩, by rw [r5.1 3 (by decide), hv.1 30 (by decide)]; exact t3, by rw [r5.1 28 (by decide)]; exact t28, by rw [hv.1 26 (by decide)]; exact t26, hFr_fr tF r5 (by decide), hMz_fr tM r5 (by decide)⟩
        · rcases hI with ⟨x1, x2⟩ | ⟨x1, x2, x3⟩
          · exact Or.inl ⟨by rw [r5.1 4 (by decide)]; exact x1, by rw [hv.1 25 (by decide)]; exact x2⟩
          · exact Or.inr ⟨by rw [r5.1 4 (by decide)]; exact x1, by rw [hv.1 25 (by decide)]; exact x2, rIn_f x3 r5 (by decide) hv (by decide)⟩
      · rw [if_neg (show ¬ nI (L + c) ≤ (8192 : Int32) from fun t => q ((nI_leI (b := 8192) (by omega) (by omega)).mp t)), if_neg (show ¬ nI (L + c) ≤ (8192 : Int32) from fun t => q ((nI_leI (b := 8192) (by omega) (by omega)).mp t))]
        unfold jb_Model_feed_43
        rw [mf_fails1, ys_seq, if_neg (by decide), ys_catr, if_neg (by decide), if_pos rfl]
        refine ⟨2, 0, uh, _, rfl, rfl, rfl, fun t => absurd t (by decide), ?_⟩
        exact (rRel_k (x0 := 0) ((rRel_k (x0 := 0) h).2)).2
    · rw [if_neg q8, if_pos (c8.mpr q8), ys_seq, if_pos rfl]
      exact bad
theorem q_give (h : rRel uh um) : ∃ (k b : Int32) (vh vm : xk_St), fm_Law_give y uh = some (k, vh) ∧ fm_Model_give y um = some (b, vm) ∧ vm.1 0 = k ∧ (k = 0 → vh.2.2.2 13 0 = b.toInt64) ∧ rRel vh vm := by
  obtain ⟨hB, hI⟩ := id h
  obtain ⟨hA, hL, ⟨g, g1, g2, g3, g4⟩, hR, t3, t28, t26, tF, tM⟩ := hB
  unfold fm_Law_give fm_House_give fm_Model_give jb_Model_give_15
  simp only [xs_let]
  rw [g2, g3]
  by_cases q : g = 16
  · rw [if_pos (show nI g = 16 by rw [q]; rfl), if_pos (show nI g = 16 by rw [q]; rfl), mf_fails1, ys_seq, if_neg (by decide), ys_catr, if_pos rfl]
    exact ⟨1, 0, uh, _, rfl, rfl, rfl, fun t => absurd t (by decide), (rRel_k (x0 := 0) h).2⟩
  · have hne : ¬ nI g = (16 : Int32) := fun t => q ((nI_eq (b := 16) (by omega) (by decide)).mp t)
    have w2 : (xs_I um 0 0).1 2 = nI g := g3
    have w2' : ∀ z, (xs_B (xs_I um 0 0) 0 g z).1 2 = nI g := fun _ => g3
    have u1' : ∀ z, (xs_B uh 0 g z).1 1 = nI g := fun _ => g2
    rw [if_neg hne, if_neg hne, if_neg (nI_in (N := 16) (by omega) (by decide)), show (nI g).toNatClampNeg = g from nI_clamp (by omega), mf_fails0, ys_seq, if_pos rfl, w2, if_neg (nI_in (N := 16) (by omega) (by decide)), show (nI g).toNatClampNeg = g from nI_clamp (by omega), w2', u1', nI_1, ys_catl, if_neg zz0, z00]
    have hu : yf_fr [1] [] [] [0] uh (xs_I (xs_B uh 0 g y) 1 (nI (g + 1))) := yf_I (yf_B yf_refl (by decide)) (by decide)
    have hv : yf_fr [0, 2] [] [] [0] um (xs_I (xs_B (xs_I um 0 0) 0 g y) 2 (nI (g + 1))) := yf_I (yf_B (yf_I yf_refl (by decide)) (by decide)) (by decide)
    refine ⟨0, nI (g + 1), _, _, rfl, rfl, rfl, fun _ => rfl, rRel_b ⟨⟨hA, hL, ⟨g + 1, by omega, rfl, rfl, fun i hi => ?_⟩, hR, t3, t28, t26, hFr_fr tF hu (by decide), hMz_fr tM hu (by decide)⟩, ?_⟩⟩
    · show vp_updL (uh.2.2.2 0) g y i = vp_updL (um.2.2.2 0) g y i
      by_cases qi : i = g
      · rw [qi, yb_t, yb_t]
      · rw [yb_j qi, yb_j qi]; exact g4 i (by omega)
    · rcases hI with x1 | ⟨x1, x2, x3⟩
      · exact Or.inl x1
      · exact Or.inr ⟨x1, x2, rIn_f x3 hu (by decide) hv (by decide)⟩
theorem q_result (h : rRel uh um) : ∃ (k : Int32) (b : Int64) (vh vm : xk_St), fm_Law_result a1 uh = some (k, vh) ∧ fm_Model_result a1 um = some (b, vm) ∧ vm.1 0 = k ∧ (k = 0 → vh.2.2.2 13 0 = b) ∧ rRel vh vm := by
  obtain ⟨r, r1, r2, r3, r4⟩ := h.1.2.2.2.1
  unfold fm_Law_result fm_House_result fm_Model_result jb_Model_result_13 jb_Model_result_18
  have bad : ∃ (k : Int32) (b : Int64) (vh vm : xk_St), (xs_cat (some ((.inr 3 : Int64 ⊕ Nat), uh)) (fun k3 u4 => if k3 = 3 then (some ((1 : Int32), u4)) else none) fun a1 u2 => if (0 : Int32) < 0 ∨ 1 ≤ (0 : Int32).toNatClampNeg then none else xs_let (xs_B u2 13 (0 : Int32).toNatClampNeg a1) fun u6 => some ((0 : Int32), u6)) = some (k, vh) ∧ (xs_seq (fm_Model_fails 1 (1 : Int32) um) fun x u2 => if x = (0 : Int32) then ((if a1 < 0 ∨ 16 ≤ a1.toNatClampNeg then none else some ((u2.2.2.2 4 a1.toNatClampNeg), u2))) else (some ((0 : Int64), u2))) = some (b, vm) ∧ vm.1 0 = k ∧ (k = 0 → vh.2.2.2 13 0 = b) ∧ rRel vh vm := by
    refine ⟨1, 0, uh, xs_I um 0 1, rfl, ?_, rfl, fun t => absurd t (by decide), (rRel_k (x0 := 0) h).2⟩
    rw [mf_fails1, ys_seq, if_neg (by decide)]
  by_cases q1 : a1 < 0
  · rw [if_pos q1, if_pos q1]
    exact bad
  · rw [if_neg q1, if_neg q1, r2, r3]
    by_cases q : a1 < nI r
    · rw [if_pos q, if_pos q]
      obtain ⟨c, hc, hcr⟩ : ∃ c, a1 = nI c ∧ c < r := by
        have h1 : ¬ a1.toInt < 0 := fun t => q1 (Int32.lt_iff_toInt_lt.mpr t)
        have h2 := Int32.lt_iff_toInt_lt.mp q
        rw [pkT32 (by omega)] at h2
        refine ⟨a1.toInt.toNat, ?_, by omega⟩
        apply Int32.toInt_inj.mp
        rw [pkT32 (by omega)]
        omega
      subst hc
      rw [if_neg (nI_in (N := 16) (by omega) (by decide)), show (nI c).toNatClampNeg = c from nI_clamp (by omega), mf_fails0, ys_seq, if_pos rfl, if_neg (nI_inc (by omega) (by decide)), ys_catl, if_neg zz0, z00]
      refine ⟨0, um.2.2.2 4 c, xs_B uh 13 0 (uh.2.2.2 1 c), xs_I um 0 0, rfl, rfl, rfl, fun _ => ?_, (rRel_k h).1⟩
      show vp_updL (uh.2.2.2 13) 0 (uh.2.2.2 1 c) 0 = _
      rw [yb_t]; exact r4 c hcr
    · rw [if_neg q, if_neg q]
      exact bad
end
