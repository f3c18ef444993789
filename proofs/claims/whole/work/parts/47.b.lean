section
variable {α β γ δ σ τ : Type} {B : Nat → Int32} {u v w u' v' u0 v0 u1 v1 uh um : xk_St} {T : List (Nat × List Nat × List Nat)} {F : List Nat} {G : List (Nat × Nat × Nat × Int64)} {n fu p q k j d b g m i t tc mc D f tn : Nat} {H H' : rH} {z : Nat → Nat} {LL : Nat → List Nat} {AA : Nat → sBo} {tt : Nat → Nat} {x a1 : Int32} {y : Int64}
theorem nI_ofp {a : Int32} (h : ¬ a < 0) : ∃ c, a = nI c ∧ c < 2 ^ 31 := by
  have h1 : ¬ a.toInt < 0 := fun t => h (Int32.lt_iff_toInt_lt.mpr t)
  have h2 := Int32.toInt_lt a
  refine ⟨a.toInt.toNat, ?_, by omega⟩
  apply Int32.toInt_inj.mp
  rw [pkT32 (by omega)]
  omega
theorem q_global (h : rRel uh um) : ∃ (k : Int32) (b : Int64) (vh vm : xk_St), fm_Law_global a1 uh = some (k, vh) ∧ fm_Model_global a1 um = some (b, vm) ∧ vm.1 0 = k ∧ (k = 0 → vh.2.2.2 13 0 = b) ∧ rRel vh vm := by
  have bad : ∃ (k : Int32) (b : Int64) (vh vm : xk_St), (xs_cat (some ((.inr 3 : Int64 ⊕ Nat), uh)) (fun k3 u4 => if k3 = 3 then (some ((1 : Int32), u4)) else none) fun a1 u2 => if (0 : Int32) < 0 ∨ 1 ≤ (0 : Int32).toNatClampNeg then none else xs_let (xs_B u2 13 (0 : Int32).toNatClampNeg a1) fun u6 => some ((0 : Int32), u6)) = some (k, vh) ∧ jb_Model_global_49 a1 um = some (b, vm) ∧ vm.1 0 = k ∧ (k = 0 → vh.2.2.2 13 0 = b) ∧ rRel vh vm := by
    refine ⟨1, 0, uh, xs_I um 0 1, rfl, ?_, rfl, fun t => absurd t (by decide), (rRel_k (x0 := 0) h).2⟩
    unfold jb_Model_global_49 jb_Model_global_50 jb_Model_global_61
    rw [if_pos rfl, mf_fails1, ys_seq, if_neg (by decide)]
  unfold fm_Law_global fm_House_global fm_Model_global
  rcases h.2 with ⟨h4, h25⟩ | ⟨h4, h25, hI⟩
  · rw [h4, if_pos rfl, h25, if_pos rfl]
    exact bad
  · rw [h4, if_neg (show ¬ (1 : Int32) = 0 by decide), h25, if_neg (show ¬ (1 : Int32) = 0 by decide)]
    by_cases q1 : a1 < 0
    · rw [if_pos q1, if_pos q1]
      exact bad
    · rw [if_neg q1, if_neg q1]
      obtain ⟨c, rfl, hc⟩ := nI_ofp q1
      obtain ⟨D, B, n, T, F, tc, mc, G, l7, z, LL, AA, tt, H, i1, i2, i3, ⟨⟨e1, e2⟩, ⟨e3, e4, e5⟩, e6, e7⟩, i5⟩ := hI
      rw [e1, e3]
      by_cases q : l7.length ≤ c
      · rw [if_pos (nI_le q hc), if_pos (nI_le q hc)]
        exact bad
      · have hnle : ¬ nI l7.length ≤ nI c := fun t => q ((nI_leI (by omega) (by omega)).mp t)
        rw [if_neg hnle, if_neg hnle, if_neg q1, if_neg hnle, ix65 (by omega), ix65 (by omega), show (nI c).toNatClampNeg = c from nI_clamp (by omega)]
        obtain ⟨a, ha⟩ : ∃ a, l7[c]? = some a := ⟨_, List.getElem?_eq_getElem (by omega)⟩
        obtain ⟨x1, x2, x3, x4⟩ := e2 c a (by omega) ha
        obtain ⟨y1, y2⟩ := e5 c a ha
        obtain ⟨z1, z2, z3, z4⟩ := e7 c a ha
        unfold jb_Model_global_40
        rw [ix64 (by omega), show (nI c).toNatClampNeg = c from nI_clamp (by omega), x3, y1]
        by_cases q3 : a.2.1 = 3
        · rw [if_pos (show nI a.2.1 = 3 by rw [q3]; rfl), if_pos (show nI a.2.1 = 3 by rw [q3]; rfl), x4, yn_cs (by omega), sb_nLi (by omega)]
          have hg := z4 q3
          obtain ⟨ga, hga⟩ : ∃ ga, G[a.2.2]? = some ga := ⟨_, List.getElem?_eq_getElem hg⟩
          have hrv := i2.2.1.2 a.2.2 ga hga
          have hG := i1.2.2.2.1.2.2.2.2.2.2.2 a.2.2 ga hga
          have hsh := rv_shown i2.1 hrv
          have e38 : fm_House_shown__h64 (nI a.2.2) uh = some (if uh.2.2.1 38 a.2.2 = 0 then uh.2.2.2 11 a.2.2 else if uh.2.2.2 11 a.2.2 = 0 then 0 else 1, uh) := by
            unfold fm_House_shown__h64
            rw [ix64 z2, ix64 z2, ix64 z2, show (nI a.2.2).toNatClampNeg = a.2.2 from nI_clamp (by omega)]
            by_cases q : uh.2.2.1 38 a.2.2 = 0
            · rw [if_pos q, if_pos q]
            · rw [if_neg q, if_neg q]
              by_cases q2 : uh.2.2.2 11 a.2.2 = 0
              · rw [if_pos q2, if_pos q2]
              · rw [if_neg q2, if_neg q2]
          have eM : jb_Model_global_50 (nI c) 1 um = some (if 16 ≤ ga.1 then (if um.2.2.2 2 a.2.2 = 0 then 0 else 1) else um.2.2.2 2 a.2.2, xs_I um 0 0) := by
            unfold jb_Model_global_50 jb_Model_global_61
            rw [if_neg (by decide), mf_fails0, ys_seq, if_pos rfl, ix64 (by omega), show (nI c).toNatClampNeg = c from nI_clamp (by omega)]
            simp only [xs_let]
            have w19 : (xs_I um 0 0).2.2.1 19 c = nI a.2.2 := y2
            have w14 : (xs_I um 0 0).2.2.1 14 a.2.2 = nI ga.1 := hG.1
            have w2 : (xs_I um 0 0).2.2.2 2 a.2.2 = um.2.2.2 2 a.2.2 := rfl
            rw [w19, ix64 z2, show (nI a.2.2).toNatClampNeg = a.2.2 from nI_clamp (by omega), w14, mm_isRef hG.2.2.2.1.1, ys_seq, w2]
            by_cases q : ga.1 < 16
            · rw [if_pos q, if_pos rfl, if_neg (nI_inc z2 (by decide)), if_neg (show ¬ 16 ≤ ga.1 by omega)]
            · rw [if_neg q, if_neg (show ¬ (1 : Int32) = 0 by decide), if_neg (nI_inc z2 (by decide)), if_pos (show 16 ≤ ga.1 by omega)]
              by_cases q2 : um.2.2.2 2 a.2.2 = 0
              · rw [if_pos q2, if_pos q2]
              · rw [if_neg q2, if_neg q2]
          rw [e38, ys_seq, eM, ys_catl, if_neg zz0, z00]
          refine ⟨0, _, xs_B uh 13 0 _, xs_I um 0 0, rfl, rfl, rfl, fun _ => ?_, (rRel_k h).1⟩
          show vp_updL (uh.2.2.2 13) 0 _ 0 = _
          rw [yb_t]; exact hsh
        · have hn3 : ¬ nI a.2.1 = (3 : Int32) := fun t => q3 ((nI_eq (b := 3) (by omega) (by decide)).mp t)
          rw [if_neg hn3, if_neg hn3]
          exact bad
theorem at_by (a : Int32) : ((0 : Int64) ||| ((a.toInt64 &&& 255) <<< (((8 : Int32) * 0).toInt64 &&& 63))).toInt32 = a &&& 255 := by
  have e0 : (((8 : Int32) * 0).toInt64 &&& 63) = (0 : Int64) := by decide
  rw [e0]
  have e1 : ∀ x : Int64, x <<< (0 : Int64) = x := fun x => by
    apply Int64.toBitVec_inj.mp
    rw [Int64.toBitVec_shiftLeft]
    simp
  rw [e1]
  have e2 : ∀ x : Int64, 0 ||| x = x := fun x => by
    apply Int64.toBitVec_inj.mp
    simp
  rw [e2]
  simp
theorem q_at (hfu : 100 < fu) (h : rRel uh um) : ∃ (k b : Int32) (vh vm : xk_St), fm_Law_at fu a1 uh = some (k, vh) ∧ fm_Model_at a1 um = some (b, vm) ∧ vm.1 0 = k ∧ (k = 0 → vh.2.2.2 13 0 = b.toInt64) ∧ rRel vh vm := by
  have bad : ∃ (k b : Int32) (vh vm : xk_St), (xs_cat (some ((.inr 3 : Int32 ⊕ Nat), uh)) (fun k3 u4 => if k3 = 3 then (some ((1 : Int32), u4)) else none) fun a1 u2 => if (0 : Int32) < 0 ∨ 1 ≤ (0 : Int32).toNatClampNeg then none else xs_let (xs_B u2 13 (0 : Int32).toNatClampNeg (a1.toInt64)) fun u6 => some ((0 : Int32), u6)) = some (k, vh) ∧ jb_Model_at_24 a1 um = some (b, vm) ∧ vm.1 0 = k ∧ (k = 0 → vh.2.2.2 13 0 = b.toInt64) ∧ rRel vh vm := by
    refine ⟨1, 0, uh, xs_I um 0 1, rfl, ?_, rfl, fun t => absurd t (by decide), (rRel_k (x0 := 0) h).2⟩
    unfold jb_Model_at_24 jb_Model_at_29
    rw [mf_fails1, ys_seq, if_neg (by decide)]
  unfold fm_Law_at fm_House_at fm_Model_at
  rcases h.2 with ⟨h4, h25⟩ | ⟨h4, h25, hI⟩
  · rw [h4, if_pos rfl, h25, if_pos rfl]
    exact bad
  · rw [h4, if_neg (show ¬ (1 : Int32) = 0 by decide), h25, if_neg (show ¬ (1 : Int32) = 0 by decide)]
    by_cases q1 : a1 < 0
    · rw [if_pos q1, if_pos q1]
      exact bad
    · rw [if_neg q1, if_neg q1]
      obtain ⟨c, rfl, hc⟩ := nI_ofp q1
      obtain ⟨D, B, n, T, F, tc, mc, G, l7, z, LL, AA, tt, H, i1, i2, i3, i4, i5⟩ := hI
      obtain ⟨m1, pg, mx, m2, m3, m4, m5, m6, m7, m8⟩ := i2.2.2.1
      unfold fm_Memory_holds
      rw [m2, m3, p4096 pg (by omega), p4096i pg (by omega), nI_toL hc, show (1 : Int64) = lN 1 from rfl, lN_add2 (by omega) (by omega)]
      by_cases q : c < 4096 * pg
      · rw [if_neg (fun t => by have := (pk_lLT (by omega) (by omega)).mp t; omega), ys_seq, if_neg (show ¬ (1 : Int32) = 0 by decide), if_pos ((nI_ltI hc (by omega)).mpr q)]
        have eT : fm_Memory_taken fu (nI c) 1 uh = some ((0 : Int64) ||| (((uh.2.2.1 46 c).toInt64 &&& 255) <<< (((8 : Int32) * 0).toInt64 &&& 63)), uh) := by
          unfold fm_Memory_taken
          obtain ⟨f, hf⟩ : ∃ f, fu = f + 1 + 1 := ⟨fu - 2, by omega⟩
          have : jb_Memory_taken_5 fu (f + 1 + 1) (nI c) 1 0 0 uh = some ((0 : Int64) ||| (((uh.2.2.1 46 c).toInt64 &&& 255) <<< (((8 : Int32) * 0).toInt64 &&& 63)), uh) := by
            unfold jb_Memory_taken_5
            rw [xl_eq, if_neg (by decide), Int32.add_zero, ix64k (by omega), show (nI c).toNatClampNeg = c from nI_clamp (by omega), xl_eq, xl_eq]
            unfold jb_Memory_taken_5
            rw [xl_eq, if_pos (by decide)]
          rw [← hf] at this
          exact this
        rw [eT, ys_seq, at_by, ys_catl, if_neg zz0, z00]
        unfold jb_Model_at_29
        rw [mf_fails0, ys_seq, if_pos rfl, ix64k (by omega), show (nI c).toNatClampNeg = c from nI_clamp (by omega)]
        refine ⟨0, _, xs_B uh 13 0 _, xs_I um 0 0, rfl, rfl, rfl, fun _ => ?_, (rRel_k h).1⟩
        have hz : ∀ z, (xs_B uh 13 0 z).2.2.2 13 0 = z := fun z => rfl
        rw [hz, m1 c (by omega)]
        rfl
      · rw [if_pos ((pk_lLT (by omega) (by omega)).mpr (by omega)), ys_seq, if_pos rfl, if_neg (fun t => q ((nI_ltI hc (by omega)).mp t))]
        exact bad
/-- a collection at rest -/
theorem q_coll (hfu : 18000 < fu) (h : rRel uh um) (h4 : uh.1 4 = 1) : ∃ r uh' um', fm_Heap_collect fu uh = some (r, uh') ∧ fm_Model_collect fu um = some ((), um') ∧ um'.1 32 = r ∧ um'.1 0 = um.1 0 ∧ rRel uh' um' := by
  obtain ⟨hB, hI⟩ := id h
  rcases hI with ⟨x1, -⟩ | ⟨x1, x2, hI⟩
  · rw [h4] at x1; exact absurd x1 (by decide)
  · obtain ⟨D, B, n, T, F, tc, mc, G, l7, z, LL, AA, tt, H, i1, i2, i3, i4, i5⟩ := hI
    obtain ⟨hA, hL, hg, hR, t3, t28, t26, tF, tM⟩ := hB
    have hRS : RS T H [] uh um := ⟨t28, t26, by decide, (fun i c hc => by cases hc)⟩
    obtain ⟨-, -, -, -, -, g1, g2, g3⟩ := i1.2.2.2.1
    obtain ⟨u', v', H', c1, c2, c3, c4, c5, c6, c7⟩ := rc_both hfu i1.2.2.1 hRS i2.1 i2.2.1 g2 (fun k a hk => ⟨(g3 k a hk).1, (g3 k a hk).2.2.2.1.1⟩) g1
    refine ⟨_, u', v', c1, c2, c5.1.2.1, c4.1 0 (by decide), ⟨⟨?_, ?_, ?_, ?_, ?_, ?_, ?_, hFr_of c5, hMz_fr tM c3 (by decide)⟩, Or.inr ⟨?_, ?_, D, B, n, T, F, tc, mc, G, l7, z, LL, AA, tt, H', rSt_fv (rSt_fu i1 c3 (by decide)) c4 (by decide), RD_mk i2 (yf_mono c3 (by decide)) (yf_mono c4 (by decide)) c5 c7, ?_, rEx_f i4 c3 (by decide) c4 (by decide), i5⟩⟩⟩
    · rw [c3.2.2.1 0 (by decide), c3.2.2.1 1 (by decide), c4.2.2.1 0 (by decide), c4.2.2.1 1 (by decide)]; exact hA
    · rw [c3.1 0 (by decide), c4.1 1 (by decide)]; exact hL
    · rw [c3.1 1 (by decide), c4.1 2 (by decide), c3.2.2.2 0 (by decide), c4.2.2.2 0 (by decide)]; exact hg
    · rw [c3.1 2 (by decide), c4.1 31 (by decide), c3.2.2.2 1 (by decide), c4.2.2.2 4 (by decide)]; exact hR
    · rw [c3.1 3 (by decide), c4.1 30 (by decide)]; exact t3
    · rw [c3.1 28 (by decide)]; exact t28
    · rw [c4.1 26 (by decide)]; exact t26
    · rw [c3.1 4 (by decide)]; exact x1
    · rw [c4.1 25 (by decide)]; exact x2
    · rw [c3.2.2.1 1 (by decide)]; exact i3
theorem q_look (hfu : 18000 < fu) (h : rRel uh um) : ∃ (k b : Int32) (vh vm : xk_St), fm_Law_look fu a1 uh = some (k, vh) ∧ fm_Model_look fu a1 um = some (b, vm) ∧ vm.1 0 = k ∧ (k = 0 → vh.2.2.2 13 0 = b.toInt64) ∧ rRel vh vm := by
  have bad : ∃ (k b : Int32) (vh vm : xk_St), (xs_cat (some ((.inr 0 : Int32 ⊕ Nat), uh)) (fun k3 u4 => if k3 = 0 then (some ((1 : Int32), u4)) else none) fun a1 u2 => if (0 : Int32) < 0 ∨ 1 ≤ (0 : Int32).toNatClampNeg then none else xs_let (xs_B u2 13 (0 : Int32).toNatClampNeg (a1.toInt64)) fun u6 => some ((0 : Int32), u6)) = some (k, vh) ∧ jb_Model_look_11 fu a1 um = some (b, vm) ∧ vm.1 0 = k ∧ (k = 0 → vh.2.2.2 13 0 = b.toInt64) ∧ rRel vh vm := by
    refine ⟨1, 0, uh, xs_I um 0 1, rfl, ?_, rfl, fun t => absurd t (by decide), (rRel_k (x0 := 0) h).2⟩
    unfold jb_Model_look_11 jb_Model_look_16
    rw [mf_fails1, ys_seq, if_neg (by decide)]
  have good : ∀ (r : Int32) {oh : Option ((Int32 ⊕ Nat) × xk_St)} {om : Option (Int32 × xk_St)}, oh = some (.inl r, uh) → om = some (r, xs_I um 0 0) → ∃ (k b : Int32) (vh vm : xk_St), (xs_cat oh (fun k3 u4 => if k3 = 0 then (some ((1 : Int32), u4)) else none) fun a1 u2 => if (0 : Int32) < 0 ∨ 1 ≤ (0 : Int32).toNatClampNeg then none else xs_let (xs_B u2 13 (0 : Int32).toNatClampNeg (a1.toInt64)) fun u6 => some ((0 : Int32), u6)) = some (k, vh) ∧ om = some (b, vm) ∧ vm.1 0 = k ∧ (k = 0 → vh.2.2.2 13 0 = b.toInt64) ∧ rRel vh vm := by
    intro r oh om e1 e2
    rw [e1, e2, ys_catl, if_neg zz0, z00]
    refine ⟨0, r, xs_B uh 13 0 r.toInt64, xs_I um 0 0, rfl, rfl, rfl, fun _ => ?_, (rRel_k h).1⟩
    rfl
  unfold fm_Law_look fm_House_look fm_Model_look
  by_cases q1 : a1 < 0
  · rw [if_pos q1, if_pos q1]
    exact bad
  · rw [if_neg q1, if_neg q1]
    by_cases q10 : a1 ≤ 10
    · rw [if_pos q10, if_pos q10]
      unfold jb_Model_look_16
      rw [mf_fails0, ys_seq, if_pos rfl]
      obtain ⟨⟨-, ⟨L, L1, L2, L3⟩, ⟨g, g1, g2, g3, -⟩, ⟨r, r1, r2, r3, -⟩, t3, -⟩, hI⟩ := id h
      by_cases e8 : a1 = 8
      · rw [if_pos e8, if_pos e8]
        exact good (nI L) (by rw [L2]) (congrArg (fun z => some (z, xs_I um 0 0)) L3)
      rw [if_neg e8, if_neg e8]
      by_cases e9 : a1 = 9
      · rw [if_pos e9, if_pos e9]
        exact good (nI g) (by rw [g2]) (congrArg (fun z => some (z, xs_I um 0 0)) g3)
      rw [if_neg e9, if_neg e9]
      rcases hI with ⟨h4, h25⟩ | ⟨h4, h25, hI⟩
      · have w25 : (xs_I um 0 0).1 25 = 0 := h25
        rw [h4, if_pos rfl, w25, if_pos rfl]
        exact good 0 rfl rfl
      · have w25 : (xs_I um 0 0).1 25 = 1 := h25
        obtain ⟨D, B, n, T, F, tc, mc, G, l7, z, LL, AA, tt, H, i1, i2, i3, ⟨⟨ex1, -⟩, ⟨ex3, -⟩, -⟩, i5⟩ := hI
        rw [h4, if_neg (show ¬ (1 : Int32) = 0 by decide), w25, if_neg (show ¬ (1 : Int32) = 0 by decide)]
        by_cases e0 : a1 = 0
        · rw [if_pos e0, if_pos e0]
          exact good 1 rfl rfl
        rw [if_neg e0, if_neg e0]
        by_cases e1 : a1 = 1
        · rw [if_pos e1, if_pos e1]
          exact good (nI F.length) (by rw [i1.2.1.1]) (congrArg (fun z => some (z, xs_I um 0 0)) i1.2.2.2.1.1)
        rw [if_neg e1, if_neg e1]
        by_cases e2 : a1 = 2
        · rw [if_pos e2, if_pos e2]
          exact good (nI l7.length) (by rw [ex1]) (congrArg (fun z => some (z, xs_I um 0 0)) ex3)
        rw [if_neg e2, if_neg e2]
        by_cases e3 : a1 = 3
        · rw [if_pos e3, if_pos e3]
          obtain ⟨-, pg, mx, m2, m3, -⟩ := i2.2.2.1
          exact good (nI pg) (by rw [m2]) (congrArg (fun z => some (z, xs_I um 0 0)) m3)
        rw [if_neg e3, if_neg e3]
        by_cases e4 : a1 = 4
        · rw [if_pos e4, if_pos e4]
          obtain ⟨-, nn, n1, n2, n3, n4⟩ := i2.2.2.2
          have htp : fm_Mod_tablePlaces uh = some (nI nn, uh) := by
            unfold fm_Mod_tablePlaces
            obtain ⟨tc1, tc2⟩ := i1.2.1.2.2.2.1
            rw [tc1]
            by_cases q : tc = 0
            · rw [if_pos (by rw [q]; rfl), n3 q]; rfl
            · have htc : tc = 1 := by omega
              rw [if_neg (show ¬ nI tc = (0 : Int32) from fun t => q ((nI_eq (b := 0) (by omega) (by decide)).mp t)), if_neg (by decide), z00, n4 htc]
          exact good (nI nn) (by rw [htp, ys_seq]) (congrArg (fun z => some (z, xs_I um 0 0)) n2)
        rw [if_neg e4, if_neg e4]
        by_cases e5 : a1 = 5
        · rw [if_pos e5, if_pos e5]
          exact good (nI r) (by rw [r2]) (congrArg (fun z => some (z, xs_I um 0 0)) r3)
        rw [if_neg e5, if_neg e5]
        by_cases e6 : a1 = 6
        · rw [if_pos e6, if_pos e6]
          exact good (um.1 30) (by rw [t3]) rfl
        rw [if_neg e6, if_neg e6]
        by_cases e7 : a1 = 7
        · rw [if_pos e7, if_pos e7]
          obtain ⟨rr, uh', um', c1, c2, c3, c4, c5⟩ := q_coll hfu (rRel_k (x0 := 0) (t := 0) h).2 h4
          rw [c1, ys_seq, c2, ys_seq, ys_catl, if_neg zz0, z00]
          refine ⟨0, um'.1 32, xs_B uh' 13 0 rr.toInt64, um', rfl, rfl, c4, fun _ => ?_, rRel_b c5⟩
          rw [c3]
          rfl
        rw [if_neg e7, if_neg e7]
        exact good (nI T.length) (by rw [i1.1.1.1]) (congrArg (fun z => some (z, xs_I um 0 0)) i1.2.2.1.1)
    · rw [if_neg q10, if_neg q10]
      exact bad
end
