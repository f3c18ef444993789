section
variable {α β γ δ : Type} {B : Nat → Int32} {u v w : xk_St} {L lim p q fu : Nat} {e : Int32}
theorem yo_stepB {ol : List (Nat × Option Nat)} {k op : Nat} (h : ∀ y, y ∈ ol → y.1 ≤ yo_i y ∧ yo_i y < k) : ∀ y, y ∈ yo_step ol k op → y.1 ≤ yo_i y ∧ yo_i y < k + 1 := by
  intro y hy
  unfold yo_step at hy
  by_cases h1 : op = 11
  · rw [if_pos h1] at hy
    have := h y (List.mem_of_mem_tail hy)
    omega
  · rw [if_neg h1] at hy
    by_cases h2 : op = 5
    · rw [if_pos h2] at hy
      cases ol with
      | nil => cases hy
      | cons x r =>
        rcases List.mem_cons.mp hy with rfl | hy
        · have := h x List.mem_cons_self
          show x.1 ≤ k ∧ k < k + 1
          omega
        · have := h y (List.mem_cons_of_mem _ hy)
          omega
    · rw [if_neg h2] at hy
      by_cases h3 : op = 2 ∨ op = 3 ∨ op = 4
      · rw [if_pos h3] at hy
        rcases List.mem_cons.mp hy with rfl | hy
        · show k ≤ k ∧ k < k + 1
          omega
        · have := h y hy
          omega
      · rw [if_neg h3] at hy
        have := h y hy
        omega
/-- instructions stay, when more is read behind them -/
theorem yk_bodyK {sz : Nat} (hF : yk_F2 sz [] v w) : ∀ {l : List (Nat × Nat × (Option Nat ⊕ Int64) × Int64 × Nat × List Nat)} {ol : List (Nat × Option Nat)} {k : Nat}, (∀ y, y ∈ ol → y.1 ≤ yo_i y ∧ yo_i y < k) → k + l.length ≤ sz → yk_body v ol k l → yk_body w ol k l := by
  intro l
  induction l with
  | nil => intro ol k _ _ _; exact trivial
  | cons x r ih =>
    intro ol k ho hk h
    rw [List.length_cons] at hk
    refine ⟨yk_keepE h.1 (by omega) hF (fun _ y s hy => ⟨?_, fun z hz => by cases hz⟩) (fun _ y s hy => ⟨?_, fun z hz => by cases hz⟩), ih (yo_stepB ho) (by omega) h.2⟩
    · have := ho y (by rw [hy]; exact List.mem_cons_self)
      omega
    · have := ho y (by rw [hy]; exact List.mem_cons_self)
      omega
theorem yk_F2T {sz sz' : Nat} (hs : sz ≤ sz') (h1 : yk_F2 sz [] u v) (h2 : yk_F2 sz' [] v w) : yk_F2 sz [] u w := by
  refine ⟨fun j hj => ?_, yi_monoT h1.2 h2.2⟩
  obtain ⟨a1, a2, a3, a4⟩ := h1.1 j hj
  obtain ⟨b1, b2, b3, b4⟩ := h2.1 j (by omega)
  exact ⟨b1.trans a1, b2.trans a2, b3.trans a3, fun hx => (b4 fun y hy => by cases hy).trans (a4 hx)⟩
theorem yp_code_len : ∀ {d : Nat} {st : List Bool} {p : Nat} {l : List (Nat × Nat × (Option Nat ⊕ Int64) × Int64 × Nat × List Nat)} {q : Nat}, yp_code B lim d st p = .inl (l, q) → p + l.length ≤ q := by
  intro d
  induction d with
  | zero => intro st p l q h; rw [yp_code_0] at h; cases h
  | succ d ih =>
    intro st p l q h
    cases st with
    | nil => rw [yp_code_n] at h; cases h; exact Nat.le_refl _
    | cons s st =>
      rw [yp_code_s] at h
      obtain ⟨i, r, h1, h⟩ := yp_thenI h
      have := (yp_ins_eats _ _ _ h1).1
      cases hx : yn_next i.1 s st with
      | none => rw [hx] at h; cases h
      | some st' =>
        rw [hx] at h
        obtain ⟨l', r', h2, h⟩ := yp_thenI (m := yp_code B lim d st' r) h
        cases h
        have := ih h2
        rw [List.length_cons]
        omega
theorem yi_bdK {t : Nat} {a : Nat × List (Nat × Nat) × List (Nat × Nat × (Option Nat ⊕ Int64) × Int64 × Nat × List Nat)} (h : yi_bd v t a) (ha : yk_add v w) (h13 : w.2.2.1 13 t = v.2.2.1 13 t) : yi_bd w t a := by
  obtain ⟨sz, h1, h2, h3, h4, m, h5, h6, h7⟩ := h
  obtain ⟨x, y, a1, a2, a3, a4, a5⟩ := ha
  have hmx : m = x := (nI_eq (by omega) (by omega)).mp (h5.symm.trans a1)
  subst hmx
  refine ⟨sz, h13.trans h1, ((a5.1 sz (by omega)).1).trans h2, fun i c hi => ?_, yk_bodyK a5 ?_ (by omega) h4, y, a2, by omega, a4⟩
  · have hl : i < a.2.1.length := by
      rcases Nat.lt_or_ge i a.2.1.length with z | z
      · exact z
      · rw [List.getElem?_eq_none z] at hi; cases hi
    obtain ⟨b1, b2, b3, -⟩ := a5.1 (sz + 1 + i) (by omega)
    rw [b1, b2, b3]
    exact h3 i c hi
  · intro y hy
    rw [List.mem_singleton] at hy
    subst hy
    show sz ≤ sz ∧ sz < _
    omega
theorem yk_addT (h1 : yk_add u v) (h2 : yk_add v w) : yk_add u w := by
  obtain ⟨a, b, c1, c2, c3, c4, c5⟩ := h1
  obtain ⟨x, y, d1, d2, d3, d4, d5⟩ := h2
  have hmx : b = x := (nI_eq (by omega) (by omega)).mp (c2.symm.trans d1)
  subst hmx
  exact ⟨a, y, c1, d2, by omega, d4, yk_F2T c3 c5 d5⟩
/-- the frame of a body's reading -/
def yk_bfr (u v : xk_St) : Prop := yf_fr [8, 9, 17, 18] [] [7, 8, 9, 11, 13] [2] u v
/-- a body, read by the class -/
theorem hh_body {D t k : Nat} {b2 : Int32} {n : Nat} (hD : 8193 ≤ D) (hDf : D < fu) (hfu : 20 ≤ fu) (hn : L + 2 ≤ fu) (hk : k ≤ 8192) (ht : t = min k 64) (hb : ¬ b2 ≤ nI k) (h : yh_st B L p u) (h0 : yi_few u) :
    yC p (jb_Reader_readCode_20 fu (n + 1) (nI L) b2 (nI k) u) (yp_body D B L p) fun a q o => ∃ w, o = jb_Reader_readCode_20 fu n (nI L) b2 (nI (k + 1)) w ∧ yh_st B L q w ∧ yi_few w ∧ (yk_bfr u w ∧ yk_add u w ∧ ∀ j, ¬ j = t → w.2.2.1 13 j = u.2.2.1 13 j) ∧ yi_bd w t a ∧ (∀ N0, yW N0 u → yW N0 w) ∧ ∃ sz, sz ≤ 8192 ∧ u.1 8 = nI sz ∧ w.2.2.1 13 t = nI sz := by
  obtain ⟨ns, sz, p', t1, t2, t3, t4, t5, t6⟩ := h0
  have hL8 : p ≤ L ∧ L ≤ 8192 := h.2.2.2
  have hp' : p' = p := (nI_eq (by omega) (by omega)).mp (t3.symm.trans h.2.1)
  subst hp'
  conv => arg 2; unfold jb_Reader_readCode_20
  unfold yp_body
  simp only [xs_let]
  rw [if_neg hb, hh_min64 (by omega), ← ht]
  have ht64 : t ≤ 64 := by omega
  have e0 : (yp_then (yp_N B L p') fun n q => if n ≤ L - q then
    yp_then (yp_N B (q + n) q) fun g r => yp_then (yp_rep (yp_loc B (q + n)) g r) fun ls r => yp_then (yp_code B (q + n) D [false] r) fun is r => if r = q + n then (.inl ((q + n, ls, is), r) : ((Nat × List (Nat × Nat) × List (Nat × Nat × (Option Nat ⊕ Int64) × Int64 × Nat × List Nat)) × Nat) ⊕ Nat) else .inr 0
    else .inr 0) = yp_then (yp_then (yp_N B L p') fun n q => if n ≤ L - q then .inl (n, q) else .inr 0) fun n q => yp_then (yp_then (yp_N B (q + n) q) fun g r => yp_rep (yp_loc B (q + n)) g r) fun ls r => yp_then (yp_code B (q + n) D [false] r) fun is r => if r = q + n then .inl ((q + n, ls, is), r) else .inr 0 := by
    rw [yp_then_then]
    congr 1
    funext n q
    rw [yp_then_ite, yp_then_l, yp_then_r, yp_then_then]
  rw [e0]
  refine yC_try (yC_of h (hh_size hfu (Nat.le_refl _) hL8.2 h)) fun m q b w e1 e2 hw e3 => ?_
  obtain ⟨rfl, q', rfl⟩ := e3
  obtain ⟨m0, q0, d1, d2⟩ := yp_thenI e1
  obtain ⟨-, hq1, hq2⟩ := yp_Nb d1
  have hmq : m ≤ L - q ∧ q0 = q := by
    by_cases z : m0 ≤ L - q0
    · rw [if_pos z] at d2; cases d2; exact ⟨z, rfl⟩
    · rw [if_neg z] at d2; cases d2
  obtain ⟨hm, rfl⟩ := hmq
  rw [hw.2.1, nI_add]
  simp only [hh_ix ht64, hh_ix' ht64, nI_clamp (show t < 2 ^ 31 by omega)]
  have hq17 : nI q' = nI q0 := hw.2.1
  rw [hq17] at hw ⊢
  have h8a : (xs_A (xs_I (xs_I u 17 (nI q0)) 18 (nI (q0 + m))) 13 t ((xs_I (xs_I u 17 (nI q0)) 18 (nI (q0 + m))).1 8)).1 8 = nI sz := t2
  have hadd : fm_Code_add (6 : Int32) 0 0 (xs_A (xs_I (xs_I u 17 (nI q0)) 18 (nI (q0 + m))) 13 t ((xs_I (xs_I u 17 (nI q0)) 18 (nI (q0 + m))).1 8)) = _ := hh_add (op := 6) h8a (by omega) (by decide)
  rw [hadd, ys_seq, hh_opened (sz := sz) rfl (by omega), ys_seq]
  generalize hgx : xs_A (yd_add (xs_A (xs_I (xs_I u 17 (nI q0)) 18 (nI (q0 + m))) 13 t ((xs_I (xs_I u 17 (nI q0)) 18 (nI (q0 + m))).1 8)) sz (nI 6) 0 0) 9 sz (-1) = x
  have x13 : x.2.2.1 13 = upd (u.2.2.1 13) t (nI sz) := by rw [← hgx, ← t2]; rfl
  have x7 : x.2.2.1 7 = upd (u.2.2.1 7) sz 6 := by rw [← hgx]; rfl
  have x8 : x.2.2.1 8 = upd (u.2.2.1 8) sz 0 := by rw [← hgx]; rfl
  have x9 : x.2.2.1 9 = upd (u.2.2.1 9) sz (-1) := by rw [← hgx]; rfl
  have x2 : x.2.2.2 2 = vp_updL (u.2.2.2 2) sz 0 := by rw [← hgx]; rfl
  have xs8 : x.1 8 = nI (sz + 1) := by rw [← hgx]; rfl
  have xs9 : x.1 9 = nI ns := by rw [← hgx]; exact t1
  have x11 : x.2.2.1 11 = u.2.2.1 11 := by rw [← hgx]; rfl
  have xst : yh_st B (q0 + m) q0 x := by
    rw [← hgx]
    exact ⟨hw.1, rfl, rfl, by omega, by omega⟩
  have xfr : yk_bfr u x := by
    rw [← hgx]
    exact yf_A (yf_I (yf_B (yf_A (yf_A (yf_A (yf_I (yf_I yf_refl (by decide)) (by decide)) (by decide)) (by decide)) (by decide)) (by decide)) (by decide)) (by decide)
  clear hgx
  refine yC_try (hh_locals (sz := sz + 1) hfu (by omega) xs8 (by omega) xst) fun ls r b v f1 f2 hv f3 => ?_
  obtain ⟨i1, i2, i3, i4, p2, i5, i6, i7⟩ := f3
  have hp2 : p2 = r := (nI_eq (by omega) (by have := hv.2.2.2; omega)).mp (i5.symm.trans hv.2.1)
  subst hp2
  have hv8 := hv.2.2.2
  have v7 : v.2.2.1 7 sz = 6 := by rw [(i3 sz (by omega)).1, x7, ya_t]
  have v9 : v.2.2.1 9 = x.2.2.1 9 := i4.2.2.1 9 (by decide)
  have hok : yo_ok (v.2.2.1 7) (v.2.2.1 9) (sz + 1 + ls.length) [(sz, none)] := by
    refine ⟨Nat.le_refl _, ?_, ?_, ⟨fun _ => rfl, fun _ => v7⟩, fun k hk => (by cases hk), trivial⟩
    · show sz < _
      omega
    · show v.2.2.1 9 sz = -1
      rw [v9, x9, ya_t]
  have hst : yo_st (v.2.2.1 7) [(sz, none)] = [false] := by
    show [true && decide (v.2.2.1 7 sz = 4)] = [false]
    rw [v7]
    rfl
  have hc := hh_code (B := B) hfu (show q0 + m + 2 ≤ fu by omega) (k20 := jb_Reader_readCode_20 fu n) (b1 := nI L) (b2 := b2) (b3 := nI k) D [(sz, none)] p2 fu 0 (sz + 1 + ls.length) ns v (by omega) hDf (by omega) (by omega) (by omega) hv i1 ((i4.1 9 (by decide)).trans xs9) hok
  rw [hst] at hc
  refine yC_then hc fun is s g1 g2 hj => ?_
  obtain ⟨z, j1, j2, j3, j4, j5, ⟨ns2, sz2, p3, c1, c2, c3, c4, c5, c6⟩, jW⟩ := hj
  rw [j1]
  unfold jb_Reader_readCode_123
  simp only [xs_let]
  have hs8 := j2.2.2.2
  rw [j2.2.1, j2.2.2.1]
  have hsz2 : sz2 = sz + 1 + ls.length + is.length := by
    have := (yp_code_ge (by omega) g1)
    have hlen : sz + 1 + ls.length + is.length < 2 ^ 31 := by
      rcases Nat.lt_or_ge (sz + 1 + ls.length + is.length) (2 ^ 31) with y | y
      · exact y
      · exfalso
        have := yp_code_len g1
        omega
    exact (nI_eq (by omega) hlen).mp (c2.symm.trans j5)
  by_cases hse : s = q0 + m
  · subst hse
    rw [if_pos rfl, if_pos rfl, nI_1]
    refine yC_ok (Nat.le_refl _) ⟨_, rfl, ⟨j2.1, j2.2.1, rfl, by omega, hL8.2⟩, ⟨ns2, sz2, p3, c1, c2, c3, c4, c5, c6⟩, ⟨?_, ?_, fun j hj => ?_⟩, ?_, fun N0 hW => ?_, sz, by omega, t2, (show z.2.2.1 13 t = nI sz by rw [j4.2.2.2.2.1 13 (by decide), i4.2.2.1 13 (by decide), x13, ya_t])⟩
    · exact yf_I (yf_trans (yf_trans xfr (yf_mono i4 (by decide))) (yf_mono j4.2.2 (by decide))) (by decide)
    · refine ⟨sz, sz2, t2, c2, by omega, by omega, fun j hj => ?_, ?_⟩
      · obtain ⟨a1, a2, a3, a4⟩ := j4.1 j (by omega)
        obtain ⟨b1, b2, b3⟩ := i3 j (by omega)
        refine ⟨?_, ?_, ?_, fun _ => ?_⟩
        · show z.2.2.1 7 j = _
          rw [a1, b1, x7, ya_j (by omega)]
        · show z.2.2.1 8 j = _
          rw [a2, b2, x8, ya_j (by omega)]
        · show z.2.2.2 2 j = _
          rw [a3, b3, x2, yb_j (by omega)]
        · show z.2.2.1 9 j = _
          rw [a4 (fun y hy => by rw [List.mem_singleton] at hy; subst hy; show ¬ j = sz; omega), v9, x9, ya_j (by omega)]
      · have hm1 : yi_mono u v := ⟨ns, ns, t1, (i4.1 9 (by decide)).trans xs9, Nat.le_refl _, by omega, fun i _ => by rw [i4.2.2.1 11 (by decide), x11]⟩
        exact yi_monoT hm1 j4.2.1
    · show z.2.2.1 13 j = _
      rw [j4.2.2.2.2.1 13 (by decide), i4.2.2.1 13 (by decide), x13, ya_j hj]
    · have hz2 : yk_F2 sz2 [] z (xs_I z 18 (nI L)) := ⟨fun _ _ => ⟨rfl, rfl, rfl, fun _ => rfl⟩, ns2, ns2, c1, c1, Nat.le_refl _, by omega, fun _ _ => rfl⟩
      refine ⟨sz, ?_, ?_, fun i c hi => ?_, yk_bodyK hz2 (fun y hy => ?_) (show sz + 1 + ls.length + is.length ≤ sz2 by omega) j3, sz2, c2, (show sz + 1 + ls.length + is.length ≤ sz2 by omega), by omega⟩
      · show z.2.2.1 13 t = _
        rw [j4.2.2.2.2.1 13 (by decide), i4.2.2.1 13 (by decide), x13, ya_t]
      · show z.2.2.1 7 sz = _
        rw [(j4.1 sz (by omega)).1, v7]
      · have hl : i < ls.length := by
          rcases Nat.lt_or_ge i ls.length with y | y
          · exact y
          · rw [List.getElem?_eq_none y] at hi; cases hi
        obtain ⟨b1, b2, b3, -⟩ := j4.1 (sz + 1 + i) (by omega)
        show z.2.2.1 7 (sz + 1 + i) = _ ∧ z.2.2.1 8 (sz + 1 + i) = _ ∧ z.2.2.2 2 (sz + 1 + i) = _
        rw [b1, b2, b3]
        exact i2 i c hi
      · rw [List.mem_singleton] at hy
        subst hy
        show sz ≤ sz ∧ sz < _
        omega
    · have w1 : yW N0 x := yW_add (m := 1) (ns' := ns) hW t2 t1 xs8 xs9 (by omega) (Nat.le_refl _) (by omega) (fun j hj => ⟨by rw [x7, ya_j (by omega)], by rw [x8, ya_j (by omega)], by rw [x2, yb_j (by omega)]⟩) fun j hj hj2 hj3 => absurd hj3 (by
        obtain rfl : j = sz := by omega
        rw [x7, ya_t]
        decide)
      have w2 : yW N0 v := yW_add (m := ls.length) (ns' := ns) w1 xs8 xs9 i1 ((i4.1 9 (by decide)).trans xs9) (by omega) (Nat.le_refl _) (by omega) (fun j hj => i3 j hj) fun j hj hj2 hj3 => absurd hj3 (by
        obtain ⟨c, hc⟩ : ∃ c, ls[j - (sz + 1)]? = some c := ⟨_, List.getElem?_eq_getElem (by omega)⟩
        have := (i2 _ c hc).1
        rw [show sz + 1 + (j - (sz + 1)) = j by omega] at this
        rw [this]
        decide)
      exact jW N0 w2
  · rw [if_neg hse, if_neg (fun y => hse ((nI_eq (by omega) (by omega)).mp y))]
    exact yC_no
end
