section
variable {α β γ δ σ τ : Type} {u v w u0 : xk_St} {g : Nat → Nat} {T : List (Nat × List Nat × List Nat)} {n fu : Nat} {Q Q' : List sFr} {s : Option (List sFr)}
theorem ml_s30 {m : Nat} {c : Nat × List Nat × List Nat} (hc : T[m]? = some c) (h9 : u0.1 9 = nI 0) : ∀ (k n : Nat) (s : Option (List sFr)) (v : xk_St), k ≤ c.2.1.length → k < n → mK T u0 s v → MC (jb_Model_checkStructure_30 fu n (nI m) (nI k + (-1)) v) fun _ w => mK T u0 (s.bind (sq_sg T ((c.2.1.map upk).take k).reverse [20 + 2 * m])) w := by
  intro k
  induction k with
  | zero =>
    intro n s v _ hn h
    obtain ⟨n, rfl⟩ : ∃ m, n = m + 1 := ⟨n - 1, by omega⟩
    have hm := yl_lt hc
    obtain ⟨y1, y2, y3, y4⟩ := yvw_m hm h.1.2.1.1
    unfold jb_Model_checkStructure_30
    simp only [xs_let]
    rw [if_pos nI_neg1, mm_rm0, ys_seq, List.take_zero, List.reverse_nil, sg_p, sg_e]
    exact MC_seq (ml_push h y3) fun _ x hx => MC_ok hx
  | succ k ih =>
    intro n s v hk hn h
    obtain ⟨n, rfl⟩ : ∃ m, n = m + 1 := ⟨n - 1, by omega⟩
    have hm := yl_lt hc
    have h64 := h.1.2.1.1
    obtain ⟨d, hd⟩ := yl_get (l := c.2.1) (k := k) (by omega)
    obtain ⟨w1, w2, w3⟩ := upk_m h.1 hc hd
    obtain ⟨p1, p2, p3⟩ := yTM_p h.1 hc hd
    rw [nI_m1]
    unfold jb_Model_checkStructure_30
    simp only [xs_let]
    rw [if_neg (nI_pos (by omega)), (mK_8 h).2.1, h9, if_pos (show nI 0 = (0 : Int32) from rfl), nI_32, if_neg (nI_in (N := 2048) (by omega) (by decide)), nI_clamp (by omega), p1, mm_unp w3, ys_seq]
    refine MC_seq (ml_take h w1) fun _ x hx => ?_
    unfold jb_Model_checkStructure_95
    simp only [xs_let]
    have hst : ((c.2.1.map upk).take (k + 1)).reverse = upk d :: ((c.2.1.map upk).take k).reverse := by
      rw [List.take_add_one, List.getElem?_map, hd]
      simp
    rw [hst, sg_t]
    exact ih n _ x (by omega) (by omega) hx
theorem ml_s31 {m : Nat} {c : Nat × List Nat × List Nat} (hc : T[m]? = some c) (h9 : u0.1 9 = nI 1) : ∀ (k n : Nat) (s : Option (List sFr)) (v : xk_St), k ≤ c.2.1.length → k < n → mK T u0 s v → MC (jb_Model_checkStructure_30 fu n (nI m) (nI k + (-1)) v) fun _ w => mK T u0 ((xs_if (∀ (i : Nat) d, i < k → c.2.1[i]? = some d → ydf d) s).bind (sq_push (20 + 2 * m))) w := by
  intro k
  induction k with
  | zero =>
    intro n s v _ hn h
    obtain ⟨n, rfl⟩ : ∃ m, n = m + 1 := ⟨n - 1, by omega⟩
    have hm := yl_lt hc
    obtain ⟨y1, y2, y3, y4⟩ := yvw_m hm h.1.2.1.1
    unfold jb_Model_checkStructure_30
    simp only [xs_let]
    rw [if_pos nI_neg1, mm_rm0, ys_seq, xs_ifp (fun i d hi => by omega)]
    exact MC_seq (ml_push h y3) fun _ x hx => MC_ok hx
  | succ k ih =>
    intro n s v hk hn h
    obtain ⟨n, rfl⟩ : ∃ m, n = m + 1 := ⟨n - 1, by omega⟩
    have hm := yl_lt hc
    have h64 := h.1.2.1.1
    obtain ⟨d, hd⟩ := yl_get (l := c.2.1) (k := k) (by omega)
    obtain ⟨w1, w2, w3⟩ := upk_m h.1 hc hd
    obtain ⟨p1, p2, p3⟩ := yTM_p h.1 hc hd
    have e : ∀ s' : Option (List sFr), xs_if (∀ (i : Nat) d, i < k + 1 → c.2.1[i]? = some d → ydf d) s' = xs_if (∀ (i : Nat) d, i < k → c.2.1[i]? = some d → ydf d) (xs_if (ydf d) s') := fun s' => by
      by_cases z1 : ydf d
      · rw [xs_ifp z1]
        by_cases z2 : ∀ (i : Nat) d, i < k → c.2.1[i]? = some d → ydf d
        · rw [xs_ifp z2, xs_ifp fun i x hi hx => ?_]
          by_cases zi : i = k
          · subst zi; rw [hd] at hx; cases hx; exact z1
          · exact z2 i x (by omega) hx
        · rw [xs_ifn z2, xs_ifn fun y => z2 fun i x hi hx => y i x (by omega) hx]
      · rw [xs_ifn z1, xs_ifn fun y => z1 (y k d (by omega) hd)]
        by_cases z2 : ∀ (i : Nat) d, i < k → c.2.1[i]? = some d → ydf d
        · rw [xs_ifp z2]
        · rw [xs_ifn z2]
    have go : ∀ x : Int32, (x = 0 ∨ x = 1) → (x = 0 ↔ v.1 7 = 0 ∧ ydf d) → MC (jb_Model_checkStructure_92 fu (jb_Model_checkStructure_30 fu n) (nI m) (nI k) x v) fun _ w => mK T u0 ((xs_if (∀ (i : Nat) d, i < k + 1 → c.2.1[i]? = some d → ydf d) s).bind (sq_push (20 + 2 * m))) w := fun x hx h0 => by
      have hf := ml_flag h hx h0
      unfold jb_Model_checkStructure_92 jb_Model_checkStructure_95
      simp only [xs_let]
      rw [if_pos hx, e s]
      exact ih n _ _ (by omega) (by omega) hf
    rw [nI_m1]
    unfold jb_Model_checkStructure_30 jb_Model_checkStructure_87
    simp only [xs_let]
    rw [if_neg (nI_pos (by omega)), (mK_8 h).2.1, h9, if_neg (show ¬ nI 1 = (0 : Int32) by decide)]
    by_cases z7 : v.1 7 = 0
    · rw [if_pos z7, nI_32, if_neg (nI_in (N := 2048) (by omega) (by decide)), nI_clamp (by omega), p1]
      obtain ⟨d1, d2⟩ := mm_dflt (v := v) w3
      by_cases zd : ydf d
      · rw [d1 zd, ys_seq, if_neg (show ¬ (1 : Int32) = 0 by decide)]
        exact go 0 (Or.inl rfl) ⟨fun _ => ⟨z7, zd⟩, fun _ => rfl⟩
      · rw [d2 zd, ys_seq, if_pos rfl]
        exact go 1 (Or.inr rfl) ⟨fun y => absurd y (by decide), fun y => absurd y.2 zd⟩
    · rw [if_neg z7]
      exact go 1 (Or.inr rfl) ⟨fun y => absurd y (by decide), fun y => absurd y.1 z7⟩
/-- structures, by the reference -/
theorem ml_struct {o m f : Nat} (hfu : 200 ≤ fu) (h : mK T u0 (some Q) v) (h9 : u0.1 9 = nI o) (ho : o < 6) (hj : u0.2.1 0 = lN m) (hm : m < 2 ^ 32) (hj1 : 2 ≤ o → u0.2.1 1 = lN f ∧ f < 2 ^ 32) : MC (fm_Model_checkObjects fu v) fun _ w => mO T u0 (sq_struct T o m f Q) w := by
  have h64 := h.1.2.1.1
  unfold fm_Model_checkObjects
  rw [(mK_8 h).2.1, h9, if_neg (show ¬ (6 : Int32) ≤ nI o from nI_ge (b := 6) ho (by decide))]
  have suf : MC (fm_Model_checkStructure fu v) (fun _ w => mO T u0 (sq_struct T o m f Q) w) → MC (xs_seq (fm_Model_checkStructure fu v) fun _ u25 => some ((), u25)) fun _ w => mO T u0 (sq_struct T o m f Q) w := fun y => MC_seq y fun _ x hx => MC_ok hx
  refine suf ?_
  unfold fm_Model_checkStructure sq_struct
  rcases mm_oT (K := 1) h.1 ((congrFun (mK_8 h).2.2 0).trans hj) hm (Or.inl rfl) with ⟨c, hc, h95, e⟩ | ⟨hno, e⟩
  · have hlt := yl_lt hc
    have e : fm_Model_objectType (1 : Int32) v = _ := e
    obtain ⟨a, g, hv⟩ := h.1.2.2.1 m c hlt hc
    have hl16 := hv.1
    rw [e, ys_seq, if_pos (show (0 : Int32) ≤ nI m from nI_le (a := 0) (by omega) (by omega)), if_neg (nI_in (N := 64) (by omega) (by decide)), nI_clamp (by omega), hc]
    simp only [xs_let]
    rw [a.2.1, (mK_8 h).2.1, h9, (mK_8 h).2.2]
    have c2 : (2 : Int32) ≤ nI o ↔ 2 ≤ o := nI_leI (a := 2) (by omega) (by omega)
    have c5 : nI o = (5 : Int32) ↔ o = 5 := nI_eq (b := 5) (by omega) (by decide)
    show MC _ fun _ w => mO T u0 (xs_if (c.1 = 95) (sq_strc T o m f c Q)) w
    rw [xs_ifp h95]
    unfold sq_strc
    by_cases z2 : 2 ≤ o
    · obtain ⟨j1, j2⟩ := hj1 z2
      rw [if_pos (c2.mpr z2), if_neg (show ¬ o = 0 by omega), if_neg (show ¬ o = 1 by omega), j1, nI_toL (by omega)]
      have clt : lN f < lN c.2.1.length ↔ f < c.2.1.length := pk_lLT (by omega) (by omega)
      by_cases zf : f < c.2.1.length
      · rw [if_pos (clt.mpr zf), sb_nLi (by omega)]
        obtain ⟨d, hd⟩ := yl_get (l := c.2.1) (k := f) zf
        obtain ⟨w1, w2, w3⟩ := upk_m h.1 hc hd
        obtain ⟨p1, p2, p3⟩ := yTM_p h.1 hc hd
        rw [nI_32, if_neg (nI_in (N := 2048) (by omega) (by decide)), nI_clamp (by omega), p1, hd]
        show MC _ fun _ w => mO T u0 (if o = 5 then xs_if (c.2.2[f]? = some 1) (sq_sg T [upk d, 21 + 2 * m] [] Q) else xs_if ((d = 3 ∨ d = 4) ↔ 2 < o) (sq_sg T [21 + 2 * m] [upk d] Q)) w
        have h6 : ¬ c.1 = 96 := by omega
        obtain ⟨g1, g2⟩ := g.2.2.2.1 h6
        obtain ⟨x, hx⟩ := yl_get (l := c.2.2) (k := f) (by omega)
        obtain ⟨r1, r2⟩ := yTM_r h.1 hc hx (by omega)
        have hx1 := g2 f x hx
        have go : ∀ st : Bool, (st = true ↔ o = 5) → MC (jb_Model_checkStructure_161 fu (nI m) (bI st) (nI d) (nI m) v) fun _ w => mO T u0 (if o = 5 then xs_if (c.2.2[f]? = some 1) (sq_sg T [upk d, 21 + 2 * m] [] Q) else xs_if ((d = 3 ∨ d = 4) ↔ 2 < o) (sq_sg T [21 + 2 * m] [upk d] Q)) w := fun st hst => by
          unfold jb_Model_checkStructure_161 jb_Model_checkStructure_194
          have e2 : nI o - 2 = nI (o - 2) := by
            have := nI_sub2 (a := o - 2)
            rw [show o - 2 + 2 = o by omega] at this
            exact this
          rw [(mK_8 h).2.2, j1, sb_nLi (by omega), show (32 : Int32) * nI m + 16 = nI (32 * m + 16) from nI_32 (i := 16), nI_add, if_neg (nI_in (N := 2048) (by omega) (by decide)), nI_clamp (by omega), r1, (mK_8 h).2.1, h9, e2]
          have cx : nI x = (1 : Int32) ↔ x = 1 := nI_eq (b := 1) (by omega) (by decide)
          have fin : ∀ cs : Bool, (cs = true ↔ x = 1) → MC (xs_seq (fm_Model_checkPart (nI m) (nI d) (bI st) (nI (o - 2)) (bI cs) 0 v) fun _ u5 => some ((), u5)) fun _ w => mO T u0 (if o = 5 then xs_if (c.2.2[f]? = some 1) (sq_sg T [upk d, 21 + 2 * m] [] Q) else xs_if ((d = 3 ∨ d = 4) ↔ 2 < o) (sq_sg T [21 + 2 * m] [upk d] Q)) w := fun cs hcs => by
            refine MC_seq (ml_part (ar := false) (cs := cs) (q := o - 2) h hlt w3 w1 w2 (by omega)) fun _ y hy => MC_ok ?_
            refine mO_K ?_
            have es : (if o = 5 then xs_if (c.2.2[f]? = some 1) (sq_sg T [upk d, 21 + 2 * m] [] Q) else xs_if ((d = 3 ∨ d = 4) ↔ 2 < o) (sq_sg T [21 + 2 * m] [upk d] Q)) = ((xs_if (if st then cs = true else ((d = 3 ∨ d = 4) ↔ 0 < o - 2)) (some Q)).bind (sq_sg T ((if st then [upk d] else []) ++ ((if false then [1] else []) ++ [21 + 2 * m])) (if st then [] else [upk d]))) := by
              cases st with
              | true =>
                have h5 := hst.mp rfl
                rw [if_pos h5]
                simp only [if_true]
                by_cases zx : x = 1
                · rw [xs_ifp (show c.2.2[f]? = some 1 by rw [hx, zx]), xs_ifp (hcs.mpr zx)]; rfl
                · rw [xs_ifn (show ¬ c.2.2[f]? = some 1 by rw [hx]; intro y; exact zx (Option.some.inj y)), xs_ifn (fun y => zx (hcs.mp y))]; rfl
              | false =>
                have h5 : ¬ o = 5 := fun y => absurd (hst.mpr y) (by decide)
                rw [if_neg h5]
                by_cases zx : (d = 3 ∨ d = 4) ↔ 2 < o
                · rw [xs_ifp zx, xs_ifp (show (if false = true then cs = true else ((d = 3 ∨ d = 4) ↔ 0 < o - 2)) from by rw [if_neg (by decide)]; exact zx.trans ⟨fun y => by omega, fun y => by omega⟩)]; rfl
                · rw [xs_ifn zx, xs_ifn (show ¬ (if false = true then cs = true else ((d = 3 ∨ d = 4) ↔ 0 < o - 2)) from by rw [if_neg (by decide)]; exact fun y => zx (y.trans ⟨fun t => by omega, fun t => by omega⟩))]; rfl
            rw [es]
            exact hy
          by_cases zx : x = 1
          · rw [if_pos (cx.mpr zx)]
            exact fin true ⟨fun _ => zx, fun _ => rfl⟩
          · rw [if_neg (fun y => zx (cx.mp y))]
            exact fin false ⟨fun y => absurd y (by decide), fun y => absurd y zx⟩
        by_cases z5 : o = 5
        · rw [if_pos (c5.mpr z5)]
          exact go true ⟨fun _ => z5, fun _ => rfl⟩
        · rw [if_neg (fun y => z5 (c5.mp y))]
          exact go false ⟨fun y => absurd y (by decide), fun y => absurd y z5⟩
      · rw [if_neg (fun y => zf (clt.mp y)), List.getElem?_eq_none (by omega)]
        exact MC_ok (mO_K (ml_no h))
    · rw [if_neg (fun y => z2 (c2.mp y)), Int32.sub_eq_add_neg]
      by_cases z0 : o = 0
      · rw [if_pos z0]
        refine MC_mono (ml_s30 hc (by rw [h9, z0]) c.2.1.length fu (some Q) v (Nat.le_refl _) (by omega) h) fun _ x hx => mO_K ?_
        rw [List.take_of_length_le (by rw [List.length_map]; exact Nat.le_refl _)] at hx
        exact hx
      · have z1 : o = 1 := by omega
        rw [if_neg z0, if_pos z1]
        refine MC_mono (ml_s31 hc (by rw [h9, z1]) c.2.1.length fu (some Q) v (Nat.le_refl _) (by omega) h) fun _ x hx => mO_K ?_
        have es : xs_if (∀ (i : Nat) d, c.2.1[i]? = some d → ydf d) (sq_push (20 + 2 * m) Q) = (xs_if (∀ (i : Nat) d, i < c.2.1.length → c.2.1[i]? = some d → ydf d) (some Q)).bind (sq_push (20 + 2 * m)) := by
          by_cases zz : ∀ (i : Nat) d, c.2.1[i]? = some d → ydf d
          · rw [xs_ifp zz, xs_ifp fun i d _ => zz i d]; rfl
          · rw [xs_ifn zz, xs_ifn fun y => zz fun i d hd => y i d (yl_lt hd) hd]; rfl
        rw [es]
        exact hx
  · have e : fm_Model_objectType (1 : Int32) v = _ := e
    rw [e, ys_seq, if_neg (show ¬ (0 : Int32) ≤ -1 by decide)]
    have es : (T[m]?.bind fun c => xs_if (c.1 = 95) (sq_strc T o m f c Q)) = none := by
      cases hc : T[m]? with
      | none => rfl
      | some c => exact xs_ifn (hno c hc)
    rw [es]
    exact MC_ok (mO_K (ml_no h))
end
