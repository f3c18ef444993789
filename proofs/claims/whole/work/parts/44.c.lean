section
variable {α β γ δ σ τ : Type} {B : Nat → Int32} {u v w u' v' u0 v0 u1 v1 uh um uc um1 v8 : xk_St} {T : List (Nat × List Nat × List Nat)} {F : List Nat} {G : List (Nat × Nat × Nat × Int64)} {n fu p q k j d b g m i t sz ix tc mc D len : Nat} {H H' : rH} {z h : Nat → Nat} {S : Nat → Option (Nat × Nat)} {l4 l5 : List (Nat × Option Nat)} {l9 : List (Int64 × List Nat)} {l11 : List (Int64 × Nat × Nat)}
theorem by8_a {x : Int32} (h : by8 x) : vp_nar .byte ((x &&& 255).toInt8.toInt32) = x := by
  have e : (x &&& 255).toInt8 = x.toInt8 := by
    apply Int8.toBitVec_inj.mp
    apply BitVec.eq_of_toNat_eq
    rw [Int32.toBitVec_toInt8, Int32.toBitVec_toInt8, BitVec.signExtend_eq_setWidth_of_le _ (by decide), BitVec.signExtend_eq_setWidth_of_le _ (by decide), BitVec.toNat_setWidth, BitVec.toNat_setWidth, Int32.toBitVec_and, BitVec.toNat_and]
    have e1 : (255 : Int32).toBitVec.toNat = 2 ^ 8 - 1 := by decide
    rw [e1, Nat.and_two_pow_sub_one_eq_mod, Nat.mod_mod]
  rw [e, vp_nar_byte]
  have h' : x.toInt8.toInt32 = x := h
  rw [h', h']
theorem mi_243 {off cnt pos : Nat} {b1 b2 : Int32} {k187 : Int32 → Int32 → xk_St → Option (Unit × xk_St)} (hB : ∀ i, by8 (B i)) (hoc : off + cnt ≤ 65536) (hpl : pos + cnt ≤ len) (hlen : len ≤ 8192) : ∀ (j i n : Nat) (v : xk_St), i + j = cnt → j < n → ym_st B len (pos + i) v → v.1 6 = 0 → v.1 29 = 0 → ∃ v', jb_Model_instance_243 fu k187 n b1 b2 (lN off) (lN cnt) (lN i) v = jb_Model_instance_282 fu k187 b1 b2 v' ∧ ym_st B len (pos + cnt) v' ∧ v'.1 6 = 0 ∧ yf_fr [4] [] [27] [] v v' ∧ (∀ x, i ≤ x → x < cnt → v'.2.2.1 27 (off + x) = B (pos + x)) ∧ ∀ y, y < off + i ∨ off + cnt ≤ y → v'.2.2.1 27 y = v.2.2.1 27 y := by
  intro j
  induction j with
  | zero =>
    intro i n v hi hn hst h6 h29
    obtain ⟨n, rfl⟩ : ∃ f, n = f + 1 := ⟨n - 1, by omega⟩
    have hi : i = cnt := by omega
    refine ⟨v, ?_, by rw [← hi]; exact hst, h6, yf_refl, fun x h1 h2 => by omega, fun y _ => rfl⟩
    unfold jb_Model_instance_243
    simp only [xs_let]
    rw [if_pos ((lN_le2 (by omega) (by omega)).mpr (by omega))]
  | succ j ih =>
    intro i n v hi hn hst h6 h29
    obtain ⟨n, rfl⟩ : ∃ f, n = f + 1 := ⟨n - 1, by omega⟩
    have hby : yp_byte B len (pos + i) = .inl (yb_b B (pos + i), pos + i + 1) := if_neg (by omega)
    obtain ⟨v', r1, r2, r3, r4, r5, r6⟩ := ih (i + 1) n (xs_A (xs_I v 4 (nI (pos + i + 1))) 27 (off + i) (B (pos + i))) (by omega) (by omega) (ym_mv hst (by omega)) h6 h29
    refine ⟨v', ?_, r2, r3, yf_trans (yf_A (yf_I yf_refl (by decide)) (by decide)) r4, fun x h1 h2 => ?_, fun y hy => ?_⟩
    · rw [← r1]
      conv => lhs; unfold jb_Model_instance_243
      simp only [xs_let]
      rw [if_neg (fun t => by have := (lN_le2 (by omega) (by omega)).mp t; omega), if_pos h29, mk_one hst h6 hby, ys_seq, lN_add2 (by omega) (by omega), sb_nLi (by omega), ix64k (by omega), show (nI (off + i)).toNatClampNeg = off + i from nI_clamp (by omega), show yb_b B (pos + i) = B (pos + i) &&& 255 from rfl, by8_a (hB _), show (1 : Int64) = lN 1 from rfl, lN_add2 (by omega) (by omega)]
    · by_cases q : x = i
      · subst q
        rw [r6 _ (by omega)]
        show upd (v.2.2.1 27) (off + x) (B (pos + x)) (off + x) = _
        rw [ya_t]
      · exact r5 x (by omega) h2
    · rw [r6 y (by omega)]
      show upd (v.2.2.1 27) (off + i) _ y = _
      rw [ya_j (by omega)]
theorem mi_187e {b1 b2 : Int32} (h : ¬ v.1 29 = 0) : jb_Model_instance_187 fu (n + 1) b1 b2 v = some ((), v) := by
  unfold jb_Model_instance_187 jb_Model_instance_288
  simp only [xs_let]
  split <;> rfl
/-- data are placed by both -/
theorem hm_data {pg : Nat} (hfu : 70000 ≤ fu) (hB : ∀ i, by8 (B i)) (hlen : len ≤ 8192) (hl64 : l11.length ≤ 64) (hC : yi_rows yi_da l11 u0) (h1 : u0.2.2.1 1 = B) (h16 : u0.1 16 = nI l11.length) (h33 : u0.1 33 = nI pg) (hpg : pg ≤ 16) (m16 : v0.1 16 = nI pg) : ∀ (j k p e n m : Nat) (u v : xk_St), k + j = l11.length → j < n → j + 1 < m → yp_rep (yp_da B len) j p = .inl (l11.drop k, e) → (0 < j → ym_st B len p v) → v.1 6 = 0 → v.1 29 = 0 → yf_fr [] [] [46] [] u0 u → yf_fr [4, 6, 29] [0] [27] [] v0 v → (∀ i, i < 65536 → u.2.2.1 46 i = v.2.2.1 27 i) → (∀ i, 4096 * pg ≤ i → i < 65536 → u.2.2.1 46 i = 0) → ∃ c u' v', (c = 0 ∨ c = 2) ∧ jb_Machine_placeData_10 fu n (nI k) u = some (nI c, u') ∧ jb_Model_instance_187 fu m (nI l11.length) (nI k) v = jb_Model_instance_288 fu v' ∧ v'.1 29 = nI c ∧ v'.1 6 = 0 ∧ yf_fr [] [] [46] [] u0 u' ∧ yf_fr [4, 6, 29] [0] [27] [] v0 v' ∧ (∀ i, i < 65536 → u'.2.2.1 46 i = v'.2.2.1 27 i) ∧ ∀ i, 4096 * pg ≤ i → i < 65536 → u'.2.2.1 46 i = 0 := by
  intro j
  induction j with
  | zero =>
    intro k p e n m u v hkj hn hm hp hst h6 h29 hu hv hT hZ
    obtain ⟨n, rfl⟩ : ∃ f, n = f + 1 := ⟨n - 1, by omega⟩
    obtain ⟨m, rfl⟩ : ∃ f, m = f + 1 := ⟨m - 1, by omega⟩
    refine ⟨0, u, v, Or.inl rfl, ?_, ?_, h29, h6, hu, hv, hT, hZ⟩
    · unfold jb_Machine_placeData_10
      simp only [xs_let]
      rw [hu.1 16 (by simp), h16, if_pos (nI_le (by omega) (by omega))]; rfl
    · unfold jb_Model_instance_187
      simp only [xs_let]
      rw [if_pos (nI_le (by omega) (by omega))]
  | succ j ih =>
    intro k p e n m u v hkj hn hm hp hst h6 h29 hu hv hT hZ
    obtain ⟨n, rfl⟩ : ∃ f, n = f + 1 := ⟨n - 1, by omega⟩
    obtain ⟨m, rfl⟩ : ∃ f, m = f + 1 := ⟨m - 1, by omega⟩
    obtain ⟨a, ha⟩ : ∃ a, l11[k]? = some a := ⟨_, List.getElem?_eq_getElem (by omega)⟩
    have hdrop : l11.drop k = a :: l11.drop (k + 1) := by
      obtain ⟨h1, h2⟩ := List.getElem?_eq_some_iff.mp ha
      rw [List.drop_eq_getElem_cons h1, h2]
    rw [hdrop] at hp
    unfold yp_rep at hp
    obtain ⟨a', q, hp1, hp⟩ := yp_thenI hp
    obtain ⟨l', r, hp2, hp⟩ := yp_thenI hp
    cases hp
    obtain ⟨x, q1, p1, hp1⟩ := yp_thenI hp1
    obtain ⟨bs, q2, p2, hp1⟩ := yp_thenI hp1
    cases hp1
    obtain ⟨cnt, q3, p3, p2⟩ := yp_thenI p2
    have hnb := yp_Nb p3
    have hcl : cnt ≤ len - q3 := by
      refine Nat.le_of_not_lt fun t => ?_
      rw [if_neg (by omega)] at p2
      cases p2
    rw [if_pos hcl] at p2
    cases p2
    obtain ⟨y, d1, d2, d3, d4, d5⟩ := mk_place (fu := fu) (by omega) (hst (by omega)) h6 p1
    obtain ⟨c3, c1, c2⟩ := hC k _ (by omega) ha
    have c3 : u0.2.2.2 9 k = x &&& 4294967295 := c3
    have c1 : u0.2.2.1 31 k = nI q3 := c1
    have c2 : u0.2.2.1 32 k = nI cnt := c2
    obtain ⟨off, o1, o2⟩ := lN_maskE x
    rw [o2] at c3
    have y29 : (xs_I y 4 (nI q3)).1 29 = 0 := (d5.1 29 (by decide)).trans h29
    have hvy : yf_fr [4, 6, 29] [0] [27] [] v0 (xs_I y 4 (nI q3)) := yf_I (yf_trans hv (yf_mono d5 (by decide))) (by decide)
    have eH : jb_Machine_placeData_10 fu (n + 1) (nI k) u = if off + cnt ≤ 4096 * pg then jb_Machine_placeData_10 fu n (nI (k + 1)) (xs_AA u 46 (va_cpy B (u.2.2.1 46) q3 off cnt)) else some (2, u) := by
      conv => lhs; unfold jb_Machine_placeData_10
      unfold fm_Memory_holds fm_Memory_putAll
      simp only [xs_let]
      rw [hu.1 16 (by simp), h16, if_neg (fun t => by have := (nI_leI (by omega) (by omega)).mp t; omega), ix65 (by omega), ix65 (by omega), show (nI k).toNatClampNeg = k from nI_clamp (by omega), hu.1 33 (by simp), h33, p4096 pg (by omega), hu.2.2.2 9 (by simp), c3, hu.2.2.1 32 (by decide), c2, nI_toL (by omega), lN_add2 (by omega) (by omega)]
      by_cases q : off + cnt ≤ 4096 * pg
      · rw [if_neg (fun t => by have := (pk_lLT (by omega) (by omega)).mp t; omega), ys_seq, if_neg (show ¬ (1 : Int32) = 0 by decide), if_pos q, if_neg (nI_inc (by omega) (by decide)), if_neg (nI_inc (by omega) (by decide)), if_neg (nI_inc (by omega) (by decide)), hu.2.2.1 31 (by decide), c1, hu.2.2.1 32 (by decide), c2, hu.2.2.2 9 (by simp), c3, sb_nLi (by omega), show (nI q3).toNatClampNeg = q3 from nI_clamp (by omega), show (nI off).toNatClampNeg = off from nI_clamp (by omega), show (nI cnt).toNatClampNeg = cnt from nI_clamp (by omega), if_neg (by
          rintro (t | t | t | t | t)
          · exact nI_inc (k := q3) (N := 100000) (by omega) (by decide) (Or.inl t)
          · exact nI_inc (k := off) (N := 100000) (by omega) (by decide) (Or.inl t)
          · exact nI_inc (k := cnt) (N := 100000) (by omega) (by decide) (Or.inl t)
          · omega
          · omega), hu.2.2.1 1 (by decide), h1, xs_ifp (fun i _ => by8_f (hB _)), ys_seq, nI_1]
      · rw [if_pos ((pk_lLT (by omega) (by omega)).mpr (by omega)), ys_seq, if_pos rfl, if_neg q]
    have hy16 : (xs_I y 4 (nI q3)).1 16 = nI pg := by rw [hvy.1 16 (by decide)]; exact m16
    have eM : jb_Model_instance_187 fu (m + 1) (nI l11.length) (nI k) v = if off + cnt ≤ 4096 * pg then jb_Model_instance_243 fu (jb_Model_instance_187 fu m) fu (nI l11.length) (nI k) (lN off) (lN cnt) (lN 0) (xs_I y 4 (nI q3)) else jb_Model_instance_243 fu (jb_Model_instance_187 fu m) fu (nI l11.length) (nI k) (lN off) (lN cnt) (lN 0) (xs_I (xs_I y 4 (nI q3)) 29 2) := by
      conv => lhs; unfold jb_Model_instance_187
      unfold jb_Model_instance_240
      simp only [xs_let]
      rw [if_neg (fun t => by have := (nI_leI (by omega) (by omega)).mp t; omega), if_pos h29, d1, ys_seq, d4, o2, mk_N (by omega) d2 d3 p3, ys_seq, hy16, p4096 pg (by omega), lN_add2 (by omega) (by omega)]
      by_cases q : off + cnt ≤ 4096 * pg
      · rw [if_pos ((lN_le2 (by omega) (by omega)).mpr q), if_pos q]; rfl
      · rw [if_neg (fun t => q ((lN_le2 (by omega) (by omega)).mp t)), if_neg q]; rfl
    rw [eH, eM]
    by_cases qq : off + cnt ≤ 4096 * pg
    · rw [if_pos qq, if_pos qq]
      obtain ⟨v2, r1, r2, r3, r4, r5, r6⟩ := mi_243 (fu := fu) (b1 := nI l11.length) (b2 := nI k) (k187 := jb_Model_instance_187 fu m) (off := off) (cnt := cnt) (pos := q3) hB (by omega) (by omega) hlen cnt 0 fu (xs_I y 4 (nI q3)) (by omega) (by omega) (ym_mv d2 hnb.2.2) d3 y29
      rw [r1]
      unfold jb_Model_instance_282
      simp only [xs_let]
      rw [nI_1]
      have hv2 : yf_fr [4, 6, 29] [0] [27] [] v0 v2 := yf_trans hvy (yf_mono r4 (by decide))
      have hAg : ∀ i, i < 65536 → va_cpy B (u.2.2.1 46) q3 off cnt i = v2.2.2.1 27 i := fun i hi => by
        by_cases ci : off ≤ i ∧ i < off + cnt
        · have e1 : va_cpy B (u.2.2.1 46) q3 off cnt i = B (q3 + (i - off)) := if_pos ci
          have r5' := r5 (i - off) (by omega) (by omega)
          rw [show off + (i - off) = i by omega] at r5'
          rw [e1, r5']
        · have e1 : va_cpy B (u.2.2.1 46) q3 off cnt i = u.2.2.1 46 i := if_neg ci
          rw [e1, r6 i (by omega)]
          have : (xs_I y 4 (nI q3)).2.2.1 27 i = v.2.2.1 27 i := by
            show y.2.2.1 27 i = _
            rw [d5.2.2.1 27 (by simp)]
          rw [this]
          exact hT i hi
      refine ih (k + 1) (q3 + cnt) e n m _ v2 (by omega) (by omega) (by omega) hp2 (fun _ => r2) r3 (by rw [r4.1 29 (by decide)]; exact y29) (yf_AA hu (by decide)) hv2 hAg fun i h1 h2 => ?_
      have e1 : va_cpy B (u.2.2.1 46) q3 off cnt i = u.2.2.1 46 i := if_neg (by omega)
      show va_cpy B (u.2.2.1 46) q3 off cnt i = 0
      rw [e1]; exact hZ i h1 h2
    · rw [if_neg qq, if_neg qq]
      have hne : ¬ (xs_I (xs_I y 4 (nI q3)) 29 2).1 29 = 0 := show ¬ (2 : Int32) = 0 by decide
      obtain ⟨f, hf⟩ : ∃ f, fu = f + 1 := ⟨fu - 1, by omega⟩
      have e243 : jb_Model_instance_243 fu (jb_Model_instance_187 fu m) (f + 1) (nI l11.length) (nI k) (lN off) (lN cnt) (lN 0) (xs_I (xs_I y 4 (nI q3)) 29 2) = jb_Model_instance_187 fu m (nI l11.length) (nI (k + 1)) (xs_I (xs_I y 4 (nI q3)) 29 2) := by
        unfold jb_Model_instance_243 jb_Model_instance_282
        simp only [xs_let]
        rw [nI_1]
        split <;> first | rfl | rw [if_neg hne]
      rw [← hf] at e243
      obtain ⟨m, rfl⟩ : ∃ f, m = f + 1 := ⟨m - 1, by omega⟩
      have e288 : jb_Model_instance_187 fu (m + 1) (nI l11.length) (nI (k + 1)) (xs_I (xs_I y 4 (nI q3)) 29 2) = jb_Model_instance_288 fu (xs_I (xs_I y 4 (nI q3)) 29 2) := by
        rw [mi_187e hne]
        unfold jb_Model_instance_288
        rw [if_neg hne]
      rw [e243, e288]
      refine ⟨2, u, xs_I (xs_I y 4 (nI q3)) 29 2, Or.inr rfl, rfl, rfl, rfl, d3, hu, yf_I hvy (by decide), fun i hi => ?_, hZ⟩
      have : (xs_I (xs_I y 4 (nI q3)) 29 2).2.2.1 27 i = v.2.2.1 27 i := by
        show y.2.2.1 27 i = _
        rw [d5.2.2.1 27 (by simp)]
      rw [this]
      exact hT i hi
end
