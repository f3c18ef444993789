section
variable {α β γ δ σ τ : Type} {u v w u0 : xk_St} {g : Nat → Nat} {T : List (Nat × List Nat × List Nat)} {n fu : Nat} {Q Q' : List sFr} {s : Option (List sFr)}
theorem nI_sub11 {a : Nat} : nI (a + 11) - 11 = nI a := nI_subb (a := a) (b := 11)
theorem nI_320 {m : Nat} : (32 : Int32) * nI m = nI (32 * m) := by
  have := nI_32 (t := m) (i := 0)
  rw [show nI 0 = (0 : Int32) from rfl, Int32.add_zero] at this
  exact this
/-- arrays, by the reference: 11, 12, 13, 14, 16 -/
theorem ml_arr {o m k : Nat} (h : mK T u0 (some Q) v) (h9 : u0.1 9 = nI o) (ho : 11 ≤ o) (ho2 : o ≤ 16) (ho3 : ¬ o = 15) (hj : u0.2.1 0 = lN m) (hm : m < 2 ^ 32) : MC (fm_Model_checkArray v) fun _ w => mO T u0 (sq_array T o m k Q) w := by
  have h64 := h.1.2.1.1
  unfold fm_Model_checkArray sq_array
  rcases mm_oT (K := 2) h.1 ((congrFun (mK_8 h).2.2 0).trans hj) hm (Or.inr rfl) with ⟨c, hc, h94, e⟩ | ⟨hno, e⟩
  · have hlt := yl_lt hc
    have e : fm_Model_objectType (2 : Int32) v = _ := e
    obtain ⟨a, g, hv⟩ := h.1.2.2.1 m c hlt hc
    have h6 : ¬ c.1 = 96 := by omega
    have hl1 := g.2.2.2.2 (by omega)
    obtain ⟨g1, g2⟩ := g.2.2.2.1 h6
    obtain ⟨d, hd⟩ := yl_get (l := c.2.1) (k := 0) (by omega)
    obtain ⟨x, hx⟩ := yl_get (l := c.2.2) (k := 0) (by omega)
    obtain ⟨w1, w2, w3⟩ := upk_m h.1 hc hd
    obtain ⟨p1, p2, p3⟩ := yTM_p h.1 hc hd
    obtain ⟨r1, r2⟩ := yTM_r h.1 hc hx (by omega)
    obtain ⟨y1, y2, y3, y4⟩ := yvw_m hlt h64
    have p1 : v.2.2.1 7 (32 * m) = nI d := p1
    have r1 : v.2.2.1 7 (32 * m + 16) = nI x := r1
    have hx1 := g2 0 x hx
    have cx : nI x = (1 : Int32) ↔ x = 1 := nI_eq (b := 1) (by omega) (by decide)
    rw [e, ys_seq, if_pos (show (0 : Int32) ≤ nI m from nI_le (a := 0) (by omega) (by omega)), show (32 : Int32) * nI m + 16 = nI (32 * m + 16) from nI_32 (i := 16), if_neg (nI_in (N := 2048) (by omega) (by decide)), nI_clamp (by omega), r1, hc]
    show MC _ fun _ w => mO T u0 (xs_if (c.1 = 94) (c.2.1[0]?.bind fun d => sq_arrc T o m k c d Q)) w
    rw [xs_ifp (show c.1 = 94 by omega), hd]
    show MC _ fun _ w => mO T u0 (sq_arrc T o m k c d Q) w
    unfold sq_arrc
    rw [if_neg (show ¬ o = 6 by omega), if_neg (show ¬ o = 7 by omega), if_neg (show ¬ o = 8 by omega)]
    have c16 : nI o = (16 : Int32) ↔ o = 16 := nI_eq (b := 16) (by omega) (by decide)
    have c14 : nI o = (14 : Int32) ↔ o = 14 := nI_eq (b := 14) (by omega) (by decide)
    have go : ∀ cs : Bool, (cs = true ↔ x = 1) → MC (jb_Model_checkArray_32 (nI m) (bI cs) v) fun _ w => mO T u0 (if o ≤ 13 then xs_if ((d = 3 ∨ d = 4) ↔ 11 < o) (sq_sg T [1, 21 + 2 * m] [upk d] Q) else xs_if (c.2.2[0]? = some 1) (if o = 16 then sq_sg T [1, upk d, 1, 21 + 2 * m] [] Q else sq_sg T [upk d, 1, 21 + 2 * m] [] Q)) w := fun cs hcs => by
      unfold jb_Model_checkArray_32 jb_Model_checkArray_54
      rw [(mK_8 h).2.1, h9]
      have hxx : c.2.2[0]? = some 1 ↔ x = 1 := by rw [hx]; exact ⟨Option.some.inj, fun y => by rw [y]⟩
      by_cases z16 : o = 16
      · rw [if_pos (c16.mpr z16), if_neg (show ¬ o ≤ 13 by omega), if_pos z16]
        have fin : ∀ y : Int32, (y = 0 ∨ y = 1) → (y = 0 ↔ v.1 7 = 0 ∧ x = 1) → MC (jb_Model_checkArray_59 (nI m) y v) fun _ w => mO T u0 (xs_if (c.2.2[0]? = some 1) (sq_sg T [1, upk d, 1, 21 + 2 * m] [] Q)) w := fun y hy h0 => by
          have hf := ml_flag h hy h0
          unfold jb_Model_checkArray_59
          simp only [xs_let]
          rw [if_pos hy]
          refine MC_seq (ml_take (x := 1) hf yvw_1) fun _ t1 ht1 => ?_
          obtain ⟨q1, -, -⟩ := yTM_p ht1.1 hc hd
          have q1 : t1.2.2.1 7 (32 * m) = nI d := q1
          rw [nI_320, if_neg (nI_in (N := 2048) (by omega) (by decide)), nI_clamp (by omega), q1, mm_unp w3, ys_seq]
          refine MC_seq (ml_take ht1 w1) fun _ t2 ht2 => ?_
          refine MC_seq (ml_take (x := 1) ht2 yvw_1) fun _ t3 ht3 => ?_
          rw [mm_rm1, ys_seq]
          refine MC_seq (ml_take ht3 y2) fun _ t4 ht4 => MC_ok (mO_K ?_)
          have es : xs_if (c.2.2[0]? = some 1) (sq_sg T [1, upk d, 1, 21 + 2 * m] [] Q) = (xs_if (x = 1) (some Q)).bind (sq_sg T [1, upk d, 1, 21 + 2 * m] []) := by
            by_cases z : x = 1
            · rw [xs_ifp (hxx.mpr z), xs_ifp z]; rfl
            · rw [xs_ifn (fun y => z (hxx.mp y)), xs_ifn z]; rfl
          rw [es, sg_t, sg_t, sg_t, sg_t, sg_e]
          exact ht4
        by_cases z7 : v.1 7 = 0
        · rw [if_pos z7]
          cases cs with
          | true =>
            rw [if_neg (show ¬ bI true = 0 by decide)]
            exact fin 0 (Or.inl rfl) ⟨fun _ => ⟨z7, hcs.mp rfl⟩, fun _ => rfl⟩
          | false =>
            rw [if_pos (show bI false = 0 from rfl)]
            exact fin 1 (Or.inr rfl) ⟨fun y => absurd y (by decide), fun y => absurd (hcs.mpr y.2) (by decide)⟩
        · rw [if_neg z7]
          exact fin 1 (Or.inr rfl) ⟨fun y => absurd y (by decide), fun y => absurd y.1 z7⟩
      · rw [if_neg (fun y => z16 (c16.mp y)), nI_320, if_neg (nI_in (N := 2048) (by omega) (by decide)), nI_clamp (by omega), p1]
        have e11 : nI o - 11 = nI (o - 11) := by
          have := nI_sub11 (a := o - 11)
          rw [show o - 11 + 11 = o by omega] at this
          exact this
        unfold jb_Model_checkArray_125
        rw [(mK_8 h).2.1, h9, e11]
        by_cases z14 : o = 14
        · rw [if_pos (c14.mpr z14), if_neg (show ¬ o ≤ 13 by omega), if_neg z16]
          refine MC_seq (ml_part (st := true) (ar := true) (cs := cs) (q := o - 11) h hlt w3 w1 w2 (by omega)) fun _ t ht => MC_ok (mO_K ?_)
          have es : xs_if (c.2.2[0]? = some 1) (sq_sg T [upk d, 1, 21 + 2 * m] [] Q) = (xs_if (if true = true then cs = true else ((d = 3 ∨ d = 4) ↔ 0 < o - 11)) (some Q)).bind (sq_sg T ((if true then [upk d] else []) ++ ((if true then [1] else []) ++ [21 + 2 * m])) (if true then [] else [upk d])) := by
            by_cases z : x = 1
            · rw [xs_ifp (hxx.mpr z), xs_ifp (show (if true = true then cs = true else ((d = 3 ∨ d = 4) ↔ 0 < o - 11)) from by rw [if_pos rfl]; exact hcs.mpr z)]; rfl
            · rw [xs_ifn (fun y => z (hxx.mp y)), xs_ifn (show ¬ (if true = true then cs = true else ((d = 3 ∨ d = 4) ↔ 0 < o - 11)) from by rw [if_pos rfl]; exact fun y => z (hcs.mp y))]; rfl
          rw [es]
          exact ht
        · rw [if_neg (fun y => z14 (c14.mp y)), if_pos (show o ≤ 13 by omega)]
          refine MC_seq (ml_part (st := false) (ar := true) (cs := cs) (q := o - 11) h hlt w3 w1 w2 (by omega)) fun _ t ht => MC_ok (mO_K ?_)
          have es : xs_if ((d = 3 ∨ d = 4) ↔ 11 < o) (sq_sg T [1, 21 + 2 * m] [upk d] Q) = (xs_if (if false = true then cs = true else ((d = 3 ∨ d = 4) ↔ 0 < o - 11)) (some Q)).bind (sq_sg T ((if false then [upk d] else []) ++ ((if true then [1] else []) ++ [21 + 2 * m])) (if false then [] else [upk d])) := by
            by_cases z : (d = 3 ∨ d = 4) ↔ 11 < o
            · rw [xs_ifp z, xs_ifp (show (if false = true then cs = true else ((d = 3 ∨ d = 4) ↔ 0 < o - 11)) from by rw [if_neg (by decide)]; exact z.trans ⟨fun y => by omega, fun y => by omega⟩)]; rfl
            · rw [xs_ifn z, xs_ifn (show ¬ (if false = true then cs = true else ((d = 3 ∨ d = 4) ↔ 0 < o - 11)) from by rw [if_neg (by decide)]; exact fun y => z (y.trans ⟨fun t => by omega, fun t => by omega⟩))]; rfl
          rw [es]
          exact ht
    by_cases zx : x = 1
    · rw [if_pos (cx.mpr zx)]
      exact go true ⟨fun _ => zx, fun _ => rfl⟩
    · rw [if_neg (fun y => zx (cx.mp y))]
      exact go false ⟨fun y => absurd y (by decide), fun y => absurd y zx⟩
  · have e : fm_Model_objectType (2 : Int32) v = _ := e
    rw [e, ys_seq, if_neg (show ¬ (0 : Int32) ≤ -1 by decide)]
    have es : (T[m]?.bind fun c => xs_if (c.1 = 94) (c.2.1[0]?.bind fun d => sq_arrc T o m k c d Q)) = none := by
      cases hc : T[m]? with
      | none => rfl
      | some c => exact xs_ifn (hno c hc)
    rw [es]
    exact MC_ok (mO_K (ml_no h))
end
