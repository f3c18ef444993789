section
variable {α β γ δ σ τ : Type} {B : Nat → Int32} {u v w u0 : xk_St} {g : Nat → Nat} {T : List (Nat × List Nat × List Nat)} {n fu lim q0 : Nat} {Q Q' : List sFr} {s : Option (List sFr)}
theorem yp_rep_mem {it : Nat → (α × Nat) ⊕ Nat} : ∀ {n p : Nat} {l : List α} {q : Nat}, yp_rep it n p = .inl (l, q) → ∀ {k : Nat} {a : α}, l[k]? = some a → ∃ p q, it p = .inl (a, q) := by
  intro n
  induction n with
  | zero =>
    intro p l q h k a ha
    unfold yp_rep at h
    cases h
    simp at ha
  | succ n ih =>
    intro p l q h k a ha
    unfold yp_rep at h
    obtain ⟨b, q1, h1, h⟩ := yp_thenI h
    obtain ⟨l1, q2, h2, h⟩ := yp_thenI h
    cases h
    cases k with
    | zero => cases ha; exact ⟨_, _, h1⟩
    | succ k => exact ih h2 ha
/-- the ways of 0x0e, all of them -/
theorem sq_waysA : ∀ {l : List Nat}, sq_ways T n Q l = xs_if (∀ d, d ∈ l → sq_way T n Q d) (some ()) := by
  intro l
  induction l with
  | nil => rw [xs_ifp (fun d hd => by cases hd)]; rfl
  | cons d l ih =>
    show (Q[d]?.bind fun f => xs_if ((sb_lab T f).length = n ∧ sq_there T Q (sb_lab T f)) (sq_ways T n Q l)) = _
    rw [ih]
    by_cases z : sq_way T n Q d
    · obtain ⟨f, q1, q2⟩ := id z
      rw [q1]
      show xs_if ((sb_lab T f).length = n ∧ sq_there T Q (sb_lab T f)) _ = _
      rw [xs_ifp q2]
      by_cases z2 : ∀ d, d ∈ l → sq_way T n Q d
      · rw [xs_ifp z2, xs_ifp fun x hx => ?_]
        rcases List.mem_cons.mp hx with y | y
        · rw [y]; exact z
        · exact z2 x y
      · rw [xs_ifn z2, xs_ifn fun y => z2 fun x hx => y x (List.mem_cons_of_mem _ hx)]
    · have e1 : xs_if (∀ x, x ∈ d :: l → sq_way T n Q x) (some ()) = none := xs_ifn fun y => z (y d (List.mem_cons_self))
      rw [e1]
      cases hq : Q[d]? with
      | none => rfl
      | some f =>
        show xs_if ((sb_lab T f).length = n ∧ sq_there T Q (sb_lab T f)) _ = none
        exact xs_ifn fun y => z ⟨f, hq, y⟩
/-- what lies there can be taken -/
theorem sq_thereT : ∀ {L : List Nat} {t : sFr} {r : List sFr}, sq_there T (t :: r) L.reverse → ∃ st, sq_takes (yl_f T) L (t :: r) = some (sf_s t st :: r) := by
  intro L
  induction L with
  | nil => intro t r _; exact ⟨t.2.2.2.2, rfl⟩
  | cons c L ih =>
    intro t r h
    have h : ∀ (i d : Nat), (c :: L).reverse[i]? = some d → match t.2.2.2.2[(c :: L).reverse.length - 1 - i]? with
      | some x => yfit (yl_f T) x d
      | none => t.2.2.2.1 = true := h
    have hlen : (c :: L).reverse.length = L.length + 1 := by rw [List.length_reverse, List.length_cons]
    have h0 := h L.length c (by rw [List.reverse_cons, List.getElem?_append_right (by rw [List.length_reverse]; exact Nat.le_refl _), List.length_reverse, Nat.sub_self]; rfl)
    rw [hlen, show L.length + 1 - 1 - L.length = 0 by omega] at h0
    have hrest : ∀ (i d : Nat), L.reverse[i]? = some d → match t.2.2.2.2[L.length - i]? with
      | some x => yfit (yl_f T) x d
      | none => t.2.2.2.1 = true := fun i d hd => by
      have hi := yl_lt hd
      have := h i d (by rw [List.reverse_cons, List.getElem?_append_left hi]; exact hd)
      rw [hlen, show L.length + 1 - 1 - i = L.length - i by omega] at this
      exact this
    show ∃ st, (sq_take (yl_f T) c (t :: r)).bind (sq_takes (yl_f T) L) = _
    cases hst : t.2.2.2.2 with
    | nil =>
      rw [hst] at h0
      have h0 : t.2.2.2.1 = true := h0
      have e : sq_take (yl_f T) c (t :: r) = some (t :: r) := by
        unfold sq_take
        rw [sq_pop_0 hst, if_pos h0]
        exact xs_ifp (Or.inl rfl)
      rw [e]
      refine ih (t := t) (r := r) fun i d hd => ?_
      rw [hst]
      exact h0
    | cons x xs =>
      rw [hst] at h0
      have h0 : yfit (yl_f T) x c := h0
      have e : sq_take (yl_f T) c (t :: r) = some (sf_s t xs :: r) := by
        unfold sq_take
        rw [sq_pop_c hst]
        exact xs_ifp h0
      rw [e]
      obtain ⟨st, h2⟩ := ih (t := sf_s t xs) (r := r) fun i d hd => by
        have hi := yl_lt hd
        rw [List.length_reverse] at hi
        have := hrest i d hd
        rw [hst, show L.length - i = (L.length - 1 - i) + 1 by omega, List.getElem?_cons_succ] at this
        rw [List.length_reverse]
        exact this
      exact ⟨st, h2⟩
theorem yf_back (h : yf_fr [4, 7, 21] [] [22] [] u0 v) : yf_fr [7, 21] [] [22] [] u0 (xs_I v 4 (u0.1 4)) := by
  refine ⟨fun k hk => ?_, h.2.1, h.2.2.1, h.2.2.2⟩
  by_cases z : k = 4
  · subst z; rfl
  · have : (xs_I v 4 (u0.1 4)).1 k = v.1 k := if_neg z
    rw [this]
    exact h.1 k (by simp at hk ⊢; omega)
/-- the end of 0x0e -/
theorem ml_87 {last j : Nat} {f : sFr} (hfu : 200 ≤ fu) (hl : last < 2 ^ 32) (hE : yTM T v) (hR : mR T s v) (hF : mF T v j f) (hf : yf_fr [4, 7, 21] [] [22] [] u0 v) (hd : ∀ Q, s = some Q → Q[last]? = some f) : MC (jb_Model_checkTable_87 fu (lN last) (nI j) (nI (sb_lab T f).length) (u0.1 4) v) fun _ w => mO2 T u0 (s.bind fun Q => xs_if (sq_way T (sb_lab T f).length Q last) (some (sq_lose Q))) w := by
  unfold jb_Model_checkTable_87
  simp only [xs_let]
  have hfx : yf_fr [4] [] [] [] v (xs_I v 4 (u0.1 4)) := yf_I yf_refl (by decide)
  obtain ⟨Q0, hS, hQ, hs⟩ := hR
  have hK : mK T u0 s (xs_I v 4 (u0.1 4)) := ⟨yTM_fr hE hfx (by decide), ⟨Q0, mS_fr hS hfx (by decide), hQ, hs⟩, yf_back hf⟩
  have hFx := mF_fr hF hfx (by decide)
  have hprl := sb_prV (b := decide (¬ f.2.1 = 3)) hE hF.2.2.1 hF.2.2.2.1
  rw [← sb_labp] at hprl
  refine MC_seq (ml_way hfu hK hl hprl.1) fun _ x hx => ?_
  refine MC_seq (ml_takeEnd hfu hx.1 (mF_fr hFx hx.2 (by decide))) fun _ y hy => ?_
  refine MC_seq (ml_lose hy) fun _ z hz => MC_ok ?_
  have es : (s.bind fun Q => xs_if (sq_way T (sb_lab T f).length Q last) (some (sq_lose Q))) = (((s.bind fun Q => xs_if (sq_way T (sb_lab T f).length Q last) (some Q)).bind (sq_takes (yl_f T) (sb_lab T f).reverse)).bind fun Q => some (sq_lose Q)) := by
    cases s with
    | none => rfl
    | some Q =>
      show xs_if (sq_way T (sb_lab T f).length Q last) (some (sq_lose Q)) = (((xs_if (sq_way T (sb_lab T f).length Q last) (some Q)).bind (sq_takes (yl_f T) (sb_lab T f).reverse)).bind fun Q => some (sq_lose Q))
      by_cases zw : sq_way T (sb_lab T f).length Q last
      · rw [xs_ifp zw, xs_ifp zw]
        obtain ⟨f', q1, -, q3⟩ := zw
        rw [hd Q rfl] at q1
        cases q1
        cases Q with
        | nil => exact absurd q3 id
        | cons t r =>
          obtain ⟨st, e⟩ := sq_thereT (L := (sb_lab T f).reverse) (t := t) (r := r) (by rw [List.reverse_reverse]; exact q3)
          show _ = (sq_takes (yl_f T) (sb_lab T f).reverse (t :: r)).bind fun Q => some (sq_lose Q)
          rw [e]; rfl
      · rw [xs_ifn zw, xs_ifn zw]; rfl
  rw [es]
  exact hz
/-- 0x0e, by the reference -/
theorem ml_table {ds : List Nat} {last q1 : Nat} (hfu : 200 ≤ fu) (hfl : lim + 3 ≤ fu) (h : mK T u0 (some Q) v) (hB : u0.2.2.1 1 = B) (h5 : u0.1 5 = nI lim) (hlim : lim ≤ 8192) (h6 : u0.1 6 = 0) (hj : u0.2.1 0 = lN last) (hlast : last < 2 ^ 32) (h10 : u0.1 10 = nI q0) (h11 : u0.1 11 = nI ds.length) (hq0 : q0 ≤ lim) (hds : yp_rep (yp_N B lim) ds.length q0 = .inl (ds, q1)) : MC (fm_Model_checkTable fu v) fun _ w => mO2 T u0 (sq_table T ds last Q) w := by
  have hdl : ds.length ≤ lim := by
    obtain ⟨y1, y2, y3⟩ := yp_rep_eats (lim := lim) (it := yp_N B lim) (fun p a q e => yp_N_eats' p a q e) hds
    have := y2 hq0
    omega
  have hd32 : ∀ (k : Nat) d, ds[k]? = some d → d < 2 ^ 32 := fun k d hk => by
    obtain ⟨p, q, e⟩ := yp_rep_mem hds hk
    exact (yp_Nb e).1
  unfold fm_Model_checkTable sq_table
  refine MC_seq (ml_take (x := 1) h yvw_1) fun _ x hx => ?_
  have hx : mK T u0 (sq_take (yl_f T) 1 Q) x := hx
  simp only [xs_let]
  rw [(mK_8 hx).2.2, hj]
  generalize sq_take (yl_f T) 1 Q = s at hx
  rcases ml_out hx hlast with ⟨j, f, e1, hF, hf⟩ | ⟨e1, hf⟩
  · have hj6 := hF.2.2.2.2.2
    have hprl := sb_prV (b := decide (¬ f.2.1 = 3)) hx.1 hF.2.2.1 hF.2.2.2.1
    rw [← sb_labp] at hprl
    rw [e1, ys_seq, if_pos (show (0 : Int32) ≤ nI j from nI_le (a := 0) (by omega) (by omega)), ix101 (by omega), mb_leads hF, ys_seq, nI_clamp (by omega), hF.2.1, mb_count (b := decide (¬ f.2.1 = 3)) hx.1 hF.2.2.1 hF.2.2.2.1, ys_seq, ← sb_labp]
    have x4 : x.1 4 = u0.1 4 := hx.2.2.1 4 (by decide)
    have x10 : x.1 10 = nI q0 := (hx.2.2.1 10 (by decide)).trans h10
    rw [x4, x10]
    have es : (s.bind fun Q1 => Q1[last]?.bind fun f => (sq_ways T (sb_lab T f).length Q1 (ds ++ [last])).bind fun _ => some (sq_lose Q1)) = (s.bind fun Q1 => xs_if (∀ d, d ∈ ds → sq_way T (sb_lab T f).length Q1 d) (some Q1)).bind fun Q1 => xs_if (sq_way T (sb_lab T f).length Q1 last) (some (sq_lose Q1)) := by
      cases s with
      | none => rfl
      | some Q1 =>
        show (Q1[last]?.bind fun f => (sq_ways T (sb_lab T f).length Q1 (ds ++ [last])).bind fun _ => some (sq_lose Q1)) = (xs_if (∀ d, d ∈ ds → sq_way T (sb_lab T f).length Q1 d) (some Q1)).bind fun Q1 => xs_if (sq_way T (sb_lab T f).length Q1 last) (some (sq_lose Q1))
        rw [hf Q1 rfl]
        show ((sq_ways T (sb_lab T f).length Q1 (ds ++ [last])).bind fun _ => some (sq_lose Q1)) = _
        rw [sq_waysA]
        by_cases z1 : ∀ d, d ∈ ds → sq_way T (sb_lab T f).length Q1 d
        · rw [xs_ifp z1]
          by_cases z2 : sq_way T (sb_lab T f).length Q1 last
          · rw [xs_ifp (fun d hd => by rcases List.mem_append.mp hd with y | y; exact z1 d y; rw [List.mem_singleton.mp y]; exact z2)]
            show _ = xs_if (sq_way T (sb_lab T f).length Q1 last) (some (sq_lose Q1))
            rw [xs_ifp z2]; rfl
          · rw [xs_ifn (fun y => z2 (y last (List.mem_append.mpr (Or.inr (List.mem_singleton.mpr rfl)))))]
            show _ = xs_if (sq_way T (sb_lab T f).length Q1 last) (some (sq_lose Q1))
            rw [xs_ifn z2]; rfl
        · rw [xs_ifn z1, xs_ifn (fun y => z1 fun d hd => y d (List.mem_append.mpr (Or.inl hd)))]; rfl
    rw [es]
    have hf4 : yf_fr [4] [] [] [] x (xs_I x 4 (nI q0)) := yf_I yf_refl (by decide)
    have y11 : (xs_I x 4 (nI q0)).1 11 = nI ds.length := (hx.2.2.1 11 (by decide)).trans h11
    have yR : mR T s (xs_I x 4 (nI q0)) := by
      obtain ⟨-, ⟨Q0, hS, hQ, hs⟩, -⟩ := hx
      exact ⟨Q0, mS_fr hS hf4 (by decide), hQ, hs⟩
    have yE := yTM_fr hx.1 hf4 (by decide)
    have yF := mF_fr hF hf4 (by decide)
    have yfr : yf_fr [4, 7, 21] [] [22] [] u0 (xs_I x 4 (nI q0)) := yf_trans (yf_mono hx.2.2 (by decide)) (yf_mono hf4 (by decide))
    obtain ⟨m, rfl⟩ : ∃ m, fu = m + 1 := ⟨fu - 1, by omega⟩
    rcases mk_s hx with ⟨Q1, rfl, x7⟩ | ⟨rfl, x7⟩
    · -- right so far: the loop
      generalize hy : xs_I x 4 (nI q0) = y at y11 yR yE yF yfr
      have y7 : y.1 7 = 0 := by rw [← hy]; exact x7
      have ySt : ym_st B lim q0 y := ⟨by rw [yfr.2.2.1 1 (by decide), hB], by rw [← hy]; rfl, by rw [yfr.1 5 (by decide), h5], hq0, hlim⟩
      have y6 : y.1 6 = 0 := (yfr.1 6 (by decide)).trans h6
      let I : Nat → xk_St → Prop := fun _ v => yTM T v ∧ mS T Q1 v ∧ mF T v j f ∧ yf_fr [4, 7, 21] [] [22] [] u0 v
      have hQ1 : ¬ Q1 = [] ∧ mS T Q1 y := by
        obtain ⟨Q0, hS, hQ, hs⟩ := yR
        rcases hs with ⟨e, -⟩ | ⟨e, -⟩
        · cases e; exact ⟨hQ, hS⟩
        · cases e
      have loop := mt_loop (B := B) (len := lim) (l := ds) (it := yp_N B lim) (fun _ d => sq_way T (sb_lab T f).length Q1 d) I (I 0)
        (fun n k v => if v.1 11 = nI ds.length then jb_Model_checkTable_55 (m + 1) n (lN last) (nI j) (nI (sb_lab T f).length) (u0.1 4) (nI k) v else jb_Model_checkTable_87 (m + 1) (lN last) (nI j) (nI (sb_lab T f).length) (u0.1 4) v)
        (fun v => jb_Model_checkTable_87 (m + 1) (lN last) (nI j) (nI (sb_lab T f).length) (u0.1 4) v)
        (fun n v => ?_) (fun n k v hk hv => ?_) (fun n k d p q v hd hp hst v6 v7 hI => ?_) ds.length 0 q0 q1 (m + 1) y (by omega) (by omega) (by rw [List.drop_zero]; exact hds) (fun _ => ySt) y6 y7 ⟨yE, hQ1.2, yF, yfr⟩
      · obtain ⟨v', e, v6, hv⟩ := loop
        have e : (if y.1 11 = nI ds.length then jb_Model_checkTable_55 (m + 1) (m + 1) (lN last) (nI j) (nI (sb_lab T f).length) (u0.1 4) (0 : Int32) y else jb_Model_checkTable_87 (m + 1) (lN last) (nI j) (nI (sb_lab T f).length) (u0.1 4) y) = _ := e
        rw [if_pos y11] at e
        rw [e]
        rcases hv with ⟨a1, a2, ⟨i1, i2, i3, i4⟩, -⟩ | ⟨⟨k, d, b1, b2⟩, a2, ⟨i1, i2, i3, i4⟩⟩
        · have hall : ∀ d, d ∈ ds → sq_way T (sb_lab T f).length Q1 d := fun d hd => by
            obtain ⟨k, hk⟩ := List.getElem?_of_mem hd
            exact a1 k d (Nat.zero_le _) hk
          show MC _ fun _ w => mO2 T u0 ((xs_if (∀ d, d ∈ ds → sq_way T (sb_lab T f).length Q1 d) (some Q1)).bind _) w
          rw [xs_ifp hall]
          exact ml_87 (s := some Q1) hfu hlast i1 ⟨Q1, i2, hQ1.1, Or.inl ⟨rfl, a2⟩⟩ i3 i4 (fun Q e => by cases e; exact hf Q1 rfl)
        · have hno : ¬ ∀ d, d ∈ ds → sq_way T (sb_lab T f).length Q1 d := fun y => b2 (y d (List.mem_of_getElem? b1))
          show MC _ fun _ w => mO2 T u0 ((xs_if (∀ d, d ∈ ds → sq_way T (sb_lab T f).length Q1 d) (some Q1)).bind _) w
          rw [xs_ifn hno]
          exact ml_87 (s := none) hfu hlast i1 ⟨Q1, i2, hQ1.1, Or.inr ⟨rfl, a2⟩⟩ i3 i4 (fun Q e => by cases e)
      · show (if v.1 11 = nI ds.length then jb_Model_checkTable_55 (m + 1) (n + 1) (lN last) (nI j) (nI (sb_lab T f).length) (u0.1 4) (nI ds.length) v else _) = _
        split
        · rename_i hv
          unfold jb_Model_checkTable_55
          simp only [xs_let]
          rw [hv, if_pos (Int32.le_refl _)]
        · rfl
      · show (if v.1 11 = nI ds.length then jb_Model_checkTable_55 (m + 1) (n + 1) (lN last) (nI j) (nI (sb_lab T f).length) (u0.1 4) (nI k) v else _) = _
        split
        · unfold jb_Model_checkTable_55
          simp only [xs_let]
          split
          · rfl
          · rw [if_neg (by rw [hv]; decide)]
        · rfl
      · have hkl := yl_lt hd
        obtain ⟨i1, i2, i3, i4⟩ := hI
        have v11 : v.1 11 = nI ds.length := (i4.1 11 (by decide)).trans h11
        have hN := mk_N (fu := m + 1) (by omega) hst v6 hp
        have hq := yp_N_eats' p d q hp
        have hfq : yf_fr [4] [] [] [] v (xs_I v 4 (nI q)) := yf_I yf_refl (by decide)
        have hKq : mK T (xs_I v 4 (nI q)) (some Q1) (xs_I v 4 (nI q)) := mK_0 (yTM_fr i1 hfq (by decide)) ⟨Q1, mS_fr i2 hfq (by decide), hQ1.1, Or.inl ⟨rfl, v7⟩⟩
        obtain ⟨r, w, ew, hw1, hw2⟩ := ml_way (n := (sb_lab T f).length) (d := d) hfu hKq (hd32 k d hd) hprl.1
        have hvw : yf_fr [4, 7] [] [] [] v w := yf_trans (yf_mono hfq (by decide)) (yf_mono hw2 (by decide))
        have w11 : w.1 11 = nI ds.length := (hvw.1 11 (by decide)).trans v11
        have hI' : I 0 w := ⟨yTM_fr i1 hvw (by decide), mS_fr i2 hvw (by decide), mF_fr i3 hvw (by decide), yf_trans i4 (yf_mono hvw (by decide))⟩
        refine ⟨w, ?_, (hvw.1 6 (by decide)).trans v6, ?_⟩
        · show (if v.1 11 = nI ds.length then jb_Model_checkTable_55 (m + 1) (n + 1) (lN last) (nI j) (nI (sb_lab T f).length) (u0.1 4) (nI k) v else _) = if w.1 11 = nI ds.length then jb_Model_checkTable_55 (m + 1) n (lN last) (nI j) (nI (sb_lab T f).length) (u0.1 4) (nI (k + 1)) w else _
          rw [if_pos v11, if_pos w11]
          conv => lhs; unfold jb_Model_checkTable_55
          simp only [xs_let]
          rw [v11, if_neg (nI_ge hkl (by omega)), if_pos v7, hN, ys_seq, ew, ys_seq, nI_1]
        · rcases mk_s hw1 with ⟨Q2, e, w7⟩ | ⟨e, w7⟩
          · have e : xs_if (sq_way T (sb_lab T f).length Q1 d) (some Q1) = some Q2 := e
            obtain ⟨e1, e2⟩ := xp_if e
            refine Or.inl ⟨e1, w7, ⟨hvw.2.2.1 1 (by decide) |>.trans hst.1, ?_, (hvw.1 5 (by decide)).trans hst.2.2.1, hq.2, hst.2.2.2.2⟩, hI'⟩
            rw [hw2.1 4 (by decide)]; rfl
          · have e : xs_if (sq_way T (sb_lab T f).length Q1 d) (some Q1) = none := e
            refine Or.inr ⟨fun y => ?_, w7, hI'⟩
            rw [xs_ifp y] at e; cases e
    · have e : jb_Model_checkTable_55 (m + 1) (m + 1) (lN last) (nI j) (nI (sb_lab T f).length) (u0.1 4) 0 (xs_I x 4 (nI q0)) = jb_Model_checkTable_87 (m + 1) (lN last) (nI j) (nI (sb_lab T f).length) (u0.1 4) (xs_I x 4 (nI q0)) := by
        unfold jb_Model_checkTable_55
        simp only [xs_let]
        split
        · rfl
        · rw [if_neg (show ¬ (xs_I x 4 (nI q0)).1 7 = 0 from fun y => by have y : x.1 7 = 0 := y; rw [x7] at y; exact absurd y (by decide))]
      rw [e]
      exact ml_87 (s := none) hfu hlast yE yR yF yfr (fun Q e => by cases e)
  · rw [e1, ys_seq, if_neg (show ¬ (0 : Int32) ≤ -1 by decide)]
    have es : (s.bind fun Q1 => Q1[last]?.bind fun f => (sq_ways T (sb_lab T f).length Q1 (ds ++ [last])).bind fun _ => some (sq_lose Q1)) = none := by
      cases s with
      | none => rfl
      | some Q1 =>
        show (Q1[last]?.bind _) = none
        rw [hf Q1 rfl]; rfl
    rw [es]
    exact MC_ok (mO2_O (mO_K (ml_no hx)))
end
