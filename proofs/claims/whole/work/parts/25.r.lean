section
variable {α β γ δ : Type} {B : Nat → Int32} {u v w : xk_St} {L lim p q fu : Nat} {e : Int32}
theorem zJ_fr {I J A D : List Nat} {o : Option (β × xk_St)} {s : (α × Nat) ⊕ Nat} {K : α → β → xk_St → Prop} (h : zC B lim p o s (zJ B lim K)) (hf : yf_F I J A D u o) : zC B lim p o s (zJ B lim fun a b v => K a b v ∧ yf_fr I J A D u v) := by
  refine zC_mono h fun a q _ _ hj => ?_
  obtain ⟨b, v, e1, e2, e3, e4⟩ := hj
  exact ⟨b, v, e1, e2, e3, e4, hf b v e1⟩
theorem yJ_fr {I J A D : List Nat} {o : Option ((β ⊕ Nat) × xk_St)} {s : (α × Nat) ⊕ Nat} {K : α → β → xk_St → Prop} (h : yC p o s (yJ B lim K)) (hf : yf_F I J A D u o) : yC p o s (yJ B lim fun a b v => K a b v ∧ yf_fr I J A D u v) := by
  refine yC_mono h fun a q _ _ hj => ?_
  obtain ⟨b, v, e1, e2, e4⟩ := hj
  exact ⟨b, v, e1, e2, e4, hf _ v e1⟩
theorem yx_seq2 {lim2 : Nat} {o : Option (β × xk_St)} {f : β → xk_St → Option (α × xk_St)} (h : ym_X B lim e o) (h2 : ∀ r v q, ym_st B lim q v → v.1 6 = e → ym_X B lim2 e (f r v)) : ym_X B lim2 e (xs_seq o f) := by
  obtain ⟨r, v, q, rfl, e1, e2⟩ := h
  exact h2 r v q e1 e2
/-- the blocks that stand open, as the reference notes them -/
def yo_m (st : List Bool) (v : xk_St) : Prop := ∀ i b, st[i]? = some b → v.2.2.1 3 (st.length - 1 - i) = if b then 1 else 0
theorem yo_tail {s : Bool} {st : List Bool} (h : yo_m (s :: st) v) : yo_m st v := by
  intro i b hi
  have := h (i + 1) b (by rw [List.getElem?_cons_succ]; exact hi)
  rw [List.length_cons, show st.length + 1 - 1 - (i + 1) = st.length - 1 - i by omega] at this
  exact this
theorem yo_push {s : Bool} {st : List Bool} (h : yo_m st v) (hw : w.2.2.1 3 = upd (v.2.2.1 3) st.length (if s then 1 else 0)) : yo_m (s :: st) w := by
  intro i b hi
  rw [hw, List.length_cons]
  cases i with
  | zero =>
    rw [List.getElem?_cons_zero] at hi
    cases hi
    rw [show st.length + 1 - 1 - 0 = st.length by omega, upd, if_pos rfl]
  | succ i =>
    rw [List.getElem?_cons_succ] at hi
    have hl : i < st.length := by
      rcases Nat.lt_or_ge i st.length with z | z
      · exact z
      · rw [List.getElem?_eq_none z] at hi; cases hi
    rw [show st.length + 1 - 1 - (i + 1) = st.length - 1 - i by omega, upd, if_neg (by omega)]
    exact h i b hi
theorem yo_same {st : List Bool} (h : yo_m st v) (hw : w.2.2.1 3 = v.2.2.1 3) : yo_m st w := by
  intro i b hi
  rw [hw]; exact h i b hi
theorem yn_op {i : Nat} {c : Nat} (hi : i < 287) (hc : c < 251) : nI (if i < 256 then i else 251) = nI c ↔ i = c := by
  rw [nI_eq (by split <;> omega) (by omega)]
  split <;> omega
/-- the end of a body -/
theorem mx_215 (hL : lim ≤ L ∧ L ≤ 8192) (he : ¬ e = 0) {x : Int32} (h : ym_st B lim q v) (h6 : v.1 6 = e) : ym_X B L e (jb_Model_bodyForm_215 fu (nI L) x v) := by
  have go : ∀ w q, ym_st B lim q w → w.1 6 = e → ym_X B L e (some ((), xs_I w 5 (nI L))) := fun w q h h6 => by
    obtain ⟨g1, g2, g3, g4, g5⟩ := h
    exact ⟨_, _, q, rfl, ⟨g1, g2, ys_Ig, by omega, hL.2⟩, h6⟩
  unfold jb_Model_bodyForm_215
  refine yx_ite (fun _ => go v q h h6) fun _ => ?_
  obtain ⟨r, w, q', e1, e2, e3⟩ := mx_fail (x := -1) he h h6
  rw [e1]
  exact go w q' e2 e3
theorem mm_215 (hL : lim ≤ L ∧ L ≤ 8192) (h : ym_st B lim p v) (h6 : v.1 6 = 0) : zC B L p (jb_Model_bodyForm_215 fu (nI L) (nI lim) v) (if p = lim then .inl ((), p) else .inr 0) (zJ B L fun _ _ _ => True) := by
  unfold jb_Model_bodyForm_215
  obtain ⟨g1, g2, g3, g4, g5⟩ := id h
  rw [g2]
  by_cases hc : p = lim
  · rw [if_pos hc, if_pos (by rw [hc])]
    exact zC_ok (Nat.le_refl _) ⟨_, _, rfl, ⟨g1, g2, ys_Ig, by omega, hL.2⟩, h6, trivial⟩
  · rw [if_neg hc, if_neg (fun z => hc ((nI_eq (by omega) (by omega)).mp z)), mm_fail0 h6]
    exact zC_no ⟨_, _, p, rfl, ⟨g1, g2, ys_Ig, by omega, hL.2⟩, rfl⟩
theorem mx_102 {n : Nat} {x y : Int32} (hL : lim ≤ L ∧ L ≤ 8192) (he : ¬ e = 0) (h : ym_st B lim q v) (h6 : v.1 6 = e) : ym_X B L e (jb_Model_bodyForm_102 fu (n + 1) (nI L) x y v) := by
  unfold jb_Model_bodyForm_102
  refine yx_let (yx_ite (fun _ => mx_215 hL he h h6) fun _ => ?_)
  rw [if_neg (by rw [h6]; exact he)]
  exact mx_215 hL he h h6
theorem yp_ins_op {i : Nat × (Option Nat ⊕ Int64) × Int64 × Nat × List Nat} (h : yp_ins B lim p = .inl (i, q)) : i.1 < 287 := by
  obtain ⟨b, r, h1, h⟩ := yp_thenI h
  obtain ⟨⟨j, hj, rfl⟩, -⟩ := yp_bb h1
  split at h
  · obtain ⟨n, r2, h2, h⟩ := yp_thenI h
    split at h
    · obtain ⟨_, r3, h3, h⟩ := yp_thenI h
      cases h
      show 256 + n < 287
      omega
    · cases h
  · obtain ⟨_, r3, h3, h⟩ := yp_thenI h
    cases h
    show (nI j).toNatClampNeg < 287
    rw [nI_clamp (by omega)]; omega
theorem nb_01 : vp_nar .byte (0 : Int32) = 0 ∧ vp_nar .byte ((0 : Int32).toInt8.toInt32) = 0 ∧ vp_nar .byte ((1 : Int32).toInt8.toInt32) = 1 := by
  refine ⟨?_, ?_, ?_⟩ <;> rfl
theorem yr_24 : ∀ j, j < 256 → (yr_in (nI j).toInt64 2 4 = 0 ↔ ¬ (j = 2 ∨ j = 3 ∨ j = 4)) := by decide +kernel
/-- a step over one instruction: K is the loop, Y what is read behind it -/
theorem mm_codeS {K : Int32 → Int32 → Int32 → xk_St → Option (Unit × xk_St)} {Y : List Bool → Nat → (List (Nat × Nat × (Option Nat ⊕ Int64) × Int64 × Nat × List Nat) × Nat) ⊕ Nat} {s : Bool} {st : List Bool} {i : Nat × (Option Nat ⊕ Int64) × Int64 × Nat × List Nat} (hL8 : lim ≤ 8192) (hpq : p < q ∧ q ≤ lim) (hst : st.length + 3 ≤ p) (hop : i.1 < 287) (hw : ym_st B lim q w) (w6 : w.1 6 = 0) (ho' : yo_m (s :: st) w) (i8 : w.1 8 = nI (if i.1 < 256 then i.1 else 251))
    (hX : ∀ e w q x, ¬ e = 0 → ym_st B lim q w → w.1 6 = e → ym_X B L e (K (nI L) (nI lim) x w))
    (hG : ∀ st' w, st'.length + 2 ≤ q → ym_st B lim q w → w.1 6 = 0 → yo_m st' w → zC B L q (K (nI L) (nI lim) (nI st'.length) w) (yp_then (Y st' q) fun _ r => if r = lim then .inl ((), r) else .inr 0) (zJ B L fun _ _ _ => True)) :
    zC B L q (if (w.1 8) = (11 : Int32) then ((xs_let (nI (st.length + 1) + (-1 : Int32)) fun a19 => K (nI L) (nI lim) a19 w)) else (if (w.1 8) = (5 : Int32) then ((if (nI (st.length + 1) - (1 : Int32)) < 0 ∨ 8192 ≤ (nI (st.length + 1) - (1 : Int32)).toNatClampNeg then none else if (w.2.2.1 3 (nI (st.length + 1) - (1 : Int32)).toNatClampNeg) = (0 : Int32) then ((xs_seq (fm_Model_fail (-1 : Int32) w) fun _ u18 => jb_Model_bodyForm_158 fu K (nI L) (nI lim) (nI (st.length + 1)) u18)) else (jb_Model_bodyForm_158 fu K (nI L) (nI lim) (nI (st.length + 1)) w))) else ((xs_seq (fm_Model_in ((w.1 8).toInt64) (2 : Int64) (4 : Int64) w) fun a13 u14 => if a13 = (0 : Int32) then (K (nI L) (nI lim) (nI (st.length + 1)) u14) else (if (u14.1 8) = (4 : Int32) then (jb_Model_bodyForm_207 fu K (nI L) (nI lim) (nI (st.length + 1)) (1 : Int32) (nI (st.length + 1)) u14) else (jb_Model_bodyForm_207 fu K (nI L) (nI lim) (nI (st.length + 1)) (0 : Int32) (nI (st.length + 1)) u14))))))
      (yp_then (yp_opt (yn_next i.1 s st) fun st' => yp_then (Y st' q) fun l r => .inl ((p, i) :: l, r)) fun _ r => if r = lim then .inl ((), r) else .inr 0) (zJ B L fun _ _ _ => True) := by
  have hsub : nI (st.length + 1) - (1 : Int32) = nI st.length := nI_pred _
  have hm1 : nI (st.length + 1) + (-1 : Int32) = nI st.length := pk_m1 _
  have hs := ho' 0 s (List.getElem?_cons_zero ..)
  rw [show (s :: st).length - 1 - 0 = st.length from rfl] at hs
  have o11 : nI (if i.1 < 256 then i.1 else 251) = (11 : Int32) ↔ i.1 = 11 := yn_op (c := 11) hop (by decide)
  have o5 : nI (if i.1 < 256 then i.1 else 251) = (5 : Int32) ↔ i.1 = 5 := yn_op (c := 5) hop (by decide)
  have o4 : nI (if i.1 < 256 then i.1 else 251) = (4 : Int32) ↔ i.1 = 4 := yn_op (c := 4) hop (by decide)
  have hGo : ∀ st' w, yn_next i.1 s st = some st' → st'.length + 2 ≤ q → ym_st B lim q w → w.1 6 = 0 → yo_m st' w → zC B L q (K (nI L) (nI lim) (nI st'.length) w) (yp_then (yp_opt (yn_next i.1 s st) fun st' => yp_then (Y st' q) fun l r => .inl ((p, i) :: l, r)) fun _ r => if r = lim then .inl ((), r) else .inr 0) (zJ B L fun _ _ _ => True) := by
    intro st' w e1 e2 e3 e4 e5
    rw [e1]
    have := hG st' w e2 e3 e4 e5
    show zC B L q _ (yp_then (yp_then (Y st' q) _) _) _
    rw [yp_then_then]
    exact this
  rw [i8, hsub, hm1]
  by_cases c11 : i.1 = 11
  · rw [if_pos (o11.mpr c11)]
    exact hGo st w (by unfold yn_next; rw [if_pos c11]) (by omega) hw w6 (yo_tail ho')
  rw [if_neg (fun z => c11 (o11.mp z))]
  by_cases c5 : i.1 = 5
  · rw [if_pos (o5.mpr c5), if_neg (nI_in (N := 8192) (show st.length < 8192 by omega) (by decide)), nI_clamp (by omega), hs]
    unfold jb_Model_bodyForm_158
    rw [hsub, if_neg (nI_in (N := 8192) (show st.length < 8192 by omega) (by decide)), nI_clamp (by omega)]
    cases s with
    | false =>
      rw [if_pos (show (if false = true then (1 : Int32) else 0) = 0 from rfl), mm_fail0 w6, ys_seq]
      have : yn_next i.1 false st = none := by unfold yn_next; rw [if_neg c11, if_pos c5]; rfl
      rw [this]
      refine zC_no ?_
      rw [if_neg (fun z => z.elim (nI_pos (by omega)) (by omega))]
      exact hX _ _ q _ (by decide) (ym_I6 hw) rfl
    | true =>
      rw [if_neg (show ¬ (if true = true then (1 : Int32) else 0) = 0 by decide), nb_01.1]
      exact hGo (false :: st) (xs_A w 3 st.length 0) (by unfold yn_next; rw [if_neg c11, if_pos c5]; rfl) (by rw [List.length_cons]; omega) hw w6 (yo_push (yo_tail ho') ys_Ag)
  rw [if_neg (fun z => c5 (o5.mp z)), mm_in, ys_seq]
  have hob : (if i.1 < 256 then i.1 else 251) < 256 := by split <;> omega
  have h24 := yr_24 _ hob
  have hb24 : (if i.1 < 256 then i.1 else 251) = 2 ∨ (if i.1 < 256 then i.1 else 251) = 3 ∨ (if i.1 < 256 then i.1 else 251) = 4 ↔ i.1 = 2 ∨ i.1 = 3 ∨ i.1 = 4 := by
    split <;> omega
  rw [hb24] at h24
  by_cases c2 : i.1 = 2 ∨ i.1 = 3 ∨ i.1 = 4
  · rw [if_neg (fun z => (h24.mp z) c2), i8]
    by_cases c4 : i.1 = 4
    · rw [if_pos (o4.mpr c4)]
      unfold jb_Model_bodyForm_207
      rw [if_neg (nI_in (N := 8192) (show st.length + 1 < 8192 by omega) (by decide)), nI_clamp (by omega), nI_1, nb_01.2.2]
      exact hGo (true :: s :: st) (xs_A w 3 (st.length + 1) 1) (by unfold yn_next; rw [if_neg c11, if_neg c5, if_neg (by omega), if_pos c4]) (by rw [List.length_cons, List.length_cons]; omega) hw w6 (yo_push ho' ys_Ag)
    · rw [if_neg (fun z => c4 (o4.mp z))]
      unfold jb_Model_bodyForm_207
      rw [if_neg (nI_in (N := 8192) (show st.length + 1 < 8192 by omega) (by decide)), nI_clamp (by omega), nI_1, nb_01.2.1]
      exact hGo (false :: s :: st) (xs_A w 3 (st.length + 1) 0) (by unfold yn_next; rw [if_neg c11, if_neg c5, if_pos (by omega)]) (by rw [List.length_cons, List.length_cons]; omega) hw w6 (yo_push ho' ys_Ag)
  · rw [if_pos (h24.mpr c2)]
    exact hGo (s :: st) w (by unfold yn_next; rw [if_neg c11, if_neg c5, if_neg (by omega), if_neg (by omega)]) (by rw [List.length_cons]; omega) hw w6 ho'
/-- the same, with a fault before -/
theorem mx_codeS {K : Int32 → Int32 → Int32 → xk_St → Option (Unit × xk_St)} {st : List Bool} (he : ¬ e = 0) (hst : st.length + 3 ≤ 8192) (h : ym_st B lim q v) (h6 : v.1 6 = e) (hX : ∀ w q x, ym_st B lim q w → w.1 6 = e → ym_X B L e (K (nI L) (nI lim) x w)) :
    ym_X B L e (if (v.1 8) = (11 : Int32) then ((xs_let (nI (st.length + 1) + (-1 : Int32)) fun a19 => K (nI L) (nI lim) a19 v)) else (if (v.1 8) = (5 : Int32) then ((if (nI (st.length + 1) - (1 : Int32)) < 0 ∨ 8192 ≤ (nI (st.length + 1) - (1 : Int32)).toNatClampNeg then none else if (v.2.2.1 3 (nI (st.length + 1) - (1 : Int32)).toNatClampNeg) = (0 : Int32) then ((xs_seq (fm_Model_fail (-1 : Int32) v) fun _ u18 => jb_Model_bodyForm_158 fu K (nI L) (nI lim) (nI (st.length + 1)) u18)) else (jb_Model_bodyForm_158 fu K (nI L) (nI lim) (nI (st.length + 1)) v))) else ((xs_seq (fm_Model_in ((v.1 8).toInt64) (2 : Int64) (4 : Int64) v) fun a13 u14 => if a13 = (0 : Int32) then (K (nI L) (nI lim) (nI (st.length + 1)) u14) else (if (u14.1 8) = (4 : Int32) then (jb_Model_bodyForm_207 fu K (nI L) (nI lim) (nI (st.length + 1)) (1 : Int32) (nI (st.length + 1)) u14) else (jb_Model_bodyForm_207 fu K (nI L) (nI lim) (nI (st.length + 1)) (0 : Int32) (nI (st.length + 1)) u14)))))) := by
  have hsub : nI (st.length + 1) - (1 : Int32) = nI st.length := nI_pred _
  have h158 : ∀ w q, ym_st B lim q w → w.1 6 = e → ym_X B L e (jb_Model_bodyForm_158 fu K (nI L) (nI lim) (nI (st.length + 1)) w) := fun w q h h6 => by
    unfold jb_Model_bodyForm_158
    rw [hsub, if_neg (nI_in (N := 8192) (show st.length < 8192 by omega) (by decide))]
    exact hX _ q _ (show ym_st B lim q (xs_A w 3 _ _) from h) h6
  have h207 : ∀ s0 : Int32, ym_X B L e (jb_Model_bodyForm_207 fu K (nI L) (nI lim) (nI (st.length + 1)) s0 (nI (st.length + 1)) v) := fun s0 => by
    unfold jb_Model_bodyForm_207
    rw [if_neg (nI_in (N := 8192) (show st.length + 1 < 8192 by omega) (by decide))]
    exact hX _ q _ (show ym_st B lim q (xs_A v 3 _ _) from h) h6
  refine yx_ite (fun _ => hX _ _ _ h h6) fun _ => yx_ite (fun _ => ?_) fun _ => ?_
  · rw [hsub, if_neg (nI_in (N := 8192) (show st.length < 8192 by omega) (by decide))]
    refine yx_ite (fun _ => ?_) fun _ => h158 v q h h6
    rw [mm_fail1 (by rw [h6]; exact he), ys_seq]
    exact h158 v q h h6
  · rw [mm_in, ys_seq]
    exact yx_ite (fun _ => hX _ _ _ h h6) fun _ => yx_ite (fun _ => h207 _) fun _ => h207 _
theorem mm_102u {n : Nat} {b1 b4 b5 : Int32} : jb_Model_bodyForm_102 fu (n + 1) b1 b4 b5 u = if b5 ≤ (0 : Int32) then (jb_Model_bodyForm_215 fu b1 b4 u) else (if (u.1 6) = (0 : Int32) then ((xs_seq (fm_Model_instruction fu u) fun _ u12 => if (u12.1 8) = (11 : Int32) then ((xs_let (b5 + (-1 : Int32)) fun a19 => (jb_Model_bodyForm_102 fu n) b1 b4 a19 u12)) else (if (u12.1 8) = (5 : Int32) then ((if (b5 - (1 : Int32)) < 0 ∨ 8192 ≤ (b5 - (1 : Int32)).toNatClampNeg then none else if (u12.2.2.1 3 (b5 - (1 : Int32)).toNatClampNeg) = (0 : Int32) then ((xs_seq (fm_Model_fail (-1 : Int32) u12) fun _ u18 => jb_Model_bodyForm_158 fu (jb_Model_bodyForm_102 fu n) b1 b4 b5 u18)) else (jb_Model_bodyForm_158 fu (jb_Model_bodyForm_102 fu n) b1 b4 b5 u12))) else ((xs_seq (fm_Model_in ((u12.1 8).toInt64) (2 : Int64) (4 : Int64) u12) fun a13 u14 => if a13 = (0 : Int32) then ((jb_Model_bodyForm_102 fu n) b1 b4 b5 u14) else (if (u14.1 8) = (4 : Int32) then (jb_Model_bodyForm_207 fu (jb_Model_bodyForm_102 fu n) b1 b4 b5 (1 : Int32) b5 u14) else (jb_Model_bodyForm_207 fu (jb_Model_bodyForm_102 fu n) b1 b4 b5 (0 : Int32) b5 u14))))))) else (jb_Model_bodyForm_215 fu b1 b4 u)) := rfl
theorem mm_code (hL : lim ≤ L ∧ L ≤ 8192) (hfu : 20 ≤ fu) (hn : lim + 3 ≤ fu) : ∀ (d : Nat) (st : List Bool) (p n : Nat) (v : xk_St), lim - p < d → lim - p + 2 < n → st.length + 2 ≤ p → ym_st B lim p v → v.1 6 = 0 → yo_m st v →
    zC B L p (jb_Model_bodyForm_102 fu n (nI L) (nI lim) (nI st.length) v) (yp_then (yp_code B lim d st p) fun _ r => if r = lim then .inl ((), r) else .inr 0) (zJ B L fun _ _ _ => True) := by
  intro d
  induction d with
  | zero => intro st p n v h; omega
  | succ d ih =>
    intro st p n v h1 h2 hst h h6 ho
    obtain ⟨n, rfl⟩ : ∃ m, n = m + 2 := ⟨n - 2, by omega⟩
    have hp : p ≤ lim ∧ lim ≤ 8192 := h.2.2.2
    have hX : ∀ e w q x, ¬ e = 0 → ym_st B lim q w → w.1 6 = e → ym_X B L e (jb_Model_bodyForm_102 fu (n + 1) (nI L) (nI lim) x w) := fun e w q x he h h6 => mx_102 hL he h h6
    have hG : ∀ q, p < q → ∀ st' w, st'.length + 2 ≤ q → ym_st B lim q w → w.1 6 = 0 → yo_m st' w → zC B L q (jb_Model_bodyForm_102 fu (n + 1) (nI L) (nI lim) (nI st'.length) w) (yp_then (yp_code B lim d st' q) fun _ r => if r = lim then .inl ((), r) else .inr 0) (zJ B L fun _ _ _ => True) := fun q hq st' w a1 a2 a3 a4 => ih st' q (n + 1) w (by have := a2.2.2.2; omega) (by have := a2.2.2.2; omega) a1 a2 a3 a4
    rw [show n + 2 = (n + 1) + 1 from rfl, mm_102u]
    generalize jb_Model_bodyForm_102 fu (n + 1) = K at hX hG ⊢
    cases st with
    | nil =>
      have h0 : nI ([] : List Bool).length ≤ (0 : Int32) := nI_le (a := 0) (b := 0) (Nat.le_refl 0) (by decide)
      rw [if_pos h0]
      rw [yp_code_n]
      exact mm_215 hL h h6
    | cons s st =>
      have hlen : (s :: st).length = st.length + 1 := rfl
      rw [hlen] at hst ⊢
      rw [if_neg (nI_nle (by omega) (by omega)), if_pos h6]
      rw [yp_code_s, yp_then_then]
      generalize yp_code B lim d = Y at hG ⊢
      refine zC_seq (zJ_fr (mm_ins hfu hn h h6) yf_fm_Model_instruction) (fun i q b w e1 _ hw w6 hI => ?_) fun k r v q h h6 => ?_
      · obtain ⟨⟨i1, i2, i3, i8, i9⟩, hf⟩ := hI
        have hq := yp_ins_eats _ _ _ e1
        exact mm_codeS hp.2 hq (by omega) (yp_ins_op e1) hw w6 (yo_same ho (hf.2.2.1 3 (by decide))) i8 hX (hG q hq.1)
      · exact mx_codeS ym_c0 (by omega) h h6 fun w q x h h6 => hX _ w q x ym_c0 h h6
end
section
variable {α β γ δ : Type} {B : Nat → Int32} {u v w : xk_St} {L lim p q fu : Nat} {e : Int32}
theorem mx_92 {x : Int32} (hfu : 20 ≤ fu) (hL : lim ≤ L ∧ L ≤ 8192) (he : ¬ e = 0) (h : ym_st B lim q v) (h6 : v.1 6 = e) : ym_X B L e (jb_Model_bodyForm_92 fu (nI L) x v) := by
  obtain ⟨n, hn⟩ : ∃ n, fu = n + 1 := ⟨fu - 1, by omega⟩
  unfold jb_Model_bodyForm_92
  rw [if_neg (by decide)]
  have h' : ym_st B lim q (xs_A v 3 (0 : Int32).toNatClampNeg (vp_nar .byte (0 : Int32))) := h
  refine yx_let ?_
  conv => arg 4; arg 2; rw [hn]
  exact mx_102 hL he h' h6
theorem mm_92 {D : Nat} (hD : 8193 ≤ D) (hL : lim ≤ L ∧ L ≤ 8192) (hfu : 20 ≤ fu) (hn : lim + 3 ≤ fu) (hp3 : 3 ≤ p) (h : ym_st B lim p v) (h6 : v.1 6 = 0) : zC B L p (jb_Model_bodyForm_92 fu (nI L) (nI lim) v) (yp_then (yp_code B lim D [false] p) fun _ r => if r = lim then .inl ((), r) else .inr 0) (zJ B L fun _ _ _ => True) := by
  unfold jb_Model_bodyForm_92
  rw [if_neg (by decide), nb_01.1]
  have h' : ym_st B lim p (xs_A v 3 (0 : Int32).toNatClampNeg 0) := h
  have hl := h.2.2.2
  refine mm_code hL hfu hn D [false] p fu _ (by omega) (by omega) (by simp; omega) h' h6 ?_
  exact yo_push (s := false) (st := []) (v := v) (fun i b hi => by simp at hi) ys_Ag
theorem mx_59 {n : Nat} {x : Int32} {y : Int64} (hfu : 20 ≤ fu) (hL : lim ≤ L ∧ L ≤ 8192) (he : ¬ e = 0) (h : ym_st B lim q v) (h6 : v.1 6 = e) : ym_X B L e (jb_Model_bodyForm_59 fu (n + 1) (nI L) x y v) := by
  unfold jb_Model_bodyForm_59
  refine yx_let (yx_ite (fun _ => mx_92 hfu hL he h h6) fun _ => ?_)
  rw [if_neg (by rw [h6]; exact he)]
  exact mx_92 hfu hL he h h6
theorem mx_30 {x : Int64} (he : ¬ e = 0) (h : ym_st B lim q v) (h6 : v.1 6 = e) : ym_X B lim e (jb_Model_bodyForm_30 fu (nI lim) x v) := by
  unfold jb_Model_bodyForm_30
  rw [if_neg (by rw [h6]; exact he)]
  exact yx_some h h6
theorem mx_body (hfu : 20 ≤ fu) (he : ¬ e = 0) (h : ym_st B lim q v) (h6 : v.1 6 = e) : ym_X B lim e (fm_Model_bodyForm fu v) := by
  unfold fm_Model_bodyForm
  rw [h.2.2.1]
  refine yx_let (yx_seq (mx_N hfu he h h6) fun r v q h h6 => yx_ite (fun _ => mx_30 he h h6) fun _ => ?_)
  exact yx_seq (mx_fail he h h6) fun r v q h h6 => mx_30 he h h6
theorem mm_body {D : Nat} (hD : 8193 ≤ D) (hfu : 20 ≤ fu) (hn : L + 3 ≤ fu) (hp3 : 3 ≤ p) (h : ym_st B L p u) (h6 : u.1 6 = 0) : zC B L p (fm_Model_bodyForm fu u) (yp_body D B L p) (zJ B L fun _ _ _ => True) := by
  unfold fm_Model_bodyForm yp_body
  rw [h.2.2.1]
  simp only [xs_let]
  have hL8 := h.2.2.2.2
  refine zC_seq (zC_of h h6 (mm_N hfu h h6)) (fun N q b v e1 _ h h6 hb => ?_) fun k r v q h h6 => ?_
  · obtain ⟨rfl, q0, rfl⟩ := hb
    obtain ⟨hN, hpq, hq⟩ := yp_Nb e1
    rw [h.2.1, h.2.2.1]
    by_cases hc : N ≤ L - q
    · rw [if_pos hc, if_pos ((yn_sz hN hq hL8).mpr hc)]
      unfold jb_Model_bodyForm_30
      rw [if_pos h6, h.2.1, lN_i, nI_add]
      simp only [xs_let]
      have h' : ym_st B (q + N) q (xs_I (xs_I u 4 (nI q0)) 5 (nI (q + N))) := ⟨h.1, h.2.1, ys_Ig, by omega, by omega⟩
      have hLL : q + N ≤ L ∧ L ≤ 8192 := ⟨by omega, hL8⟩
      refine zC_seq (zC_of h' h6 (mm_N hfu h' h6)) (fun g r b v e2 _ h h6 hb => ?_) fun k r v q h h6 => ?_
      · obtain ⟨rfl, q1, rfl⟩ := hb
        obtain ⟨hg, hqr, hr⟩ := yp_Nb e2
        have := zC_rep (B := B) (lim := q + N) (lim2 := L) (it := yp_loc B (q + N)) yp_loc_eats (fun _ _ => True) g (fun n k v => jb_Model_bodyForm_59 fu n (nI L) (nI (q + N)) (lN (g - k)) v) (fun v => jb_Model_bodyForm_92 fu (nI L) (nI (q + N)) v) ?_ ?_ (q + N - r + 1) [] r fu _ (by omega) (by omega) (Nat.zero_le _) (Nat.zero_le _) h h6 trivial
        · refine zC_then this fun ls r2 e3 e4 hj => ?_
          obtain ⟨v, e5, hv, h6, -⟩ := hj
          rw [e5]
          have := mm_92 (fu := fu) hD hLL hfu (by omega) (by omega) hv h6
          have e6 : (yp_then (yp_code B (q + N) D [false] r2) fun is r => if r = q + N then (.inl ((q + N, ls, is), r) : ((Nat × List (Nat × Nat) × List (Nat × Nat × (Option Nat ⊕ Int64) × Int64 × Nat × List Nat)) × Nat) ⊕ Nat) else .inr 0) = yp_then (yp_code B (q + N) D [false] r2) fun is r => yp_then (if r = q + N then (.inl ((), r) : (Unit × Nat) ⊕ Nat) else .inr 0) fun _ r => .inl ((q + N, ls, is), r) := by
            congr 1
            funext is r
            rw [yp_then_ite]; rfl
          rw [e6]
          rcases this with ⟨a, r3, f1, f2, f3⟩ | ⟨k, f1, f2⟩
          · obtain ⟨is, r4, f4, f5⟩ := yp_thenI f1
            rw [f4]
            simp only [yp_then] at f5 ⊢
            split at f5
            · next hr4 =>
              cases f5
              rw [if_pos hr4]
              exact zC_ok f2 f3
            · cases f5
          · generalize yp_code B (q + N) D [false] r2 = s at f1 ⊢
            rcases s with ⟨is, r4⟩ | k'
            · simp only [yp_then] at f1 ⊢
              split at f1
              · cases f1
              · next hr4 =>
                cases f1
                rw [if_neg hr4]
                exact zC_no f2
            · cases f1
              exact zC_no f2
        · intro n k v hk _
          show jb_Model_bodyForm_59 fu (n + 1) (nI L) (nI (q + N)) (lN (g - k)) v = _
          unfold jb_Model_bodyForm_59
          simp only [xs_let]
          rw [if_pos ((lN_le0 hg).mpr hk)]
        · intro n l p v hl hl2 hv h6 _
          show zC B L p (jb_Model_bodyForm_59 fu (n + 2) (nI L) (nI (q + N)) (lN (g - l.length)) v) _ _
          conv => arg 4; unfold jb_Model_bodyForm_59
          unfold yp_loc
          simp only [xs_let]
          rw [if_neg (fun z => by have := (lN_le0 hg).mp z; omega), if_pos h6, lN_m1 hl]
          refine zC_seq (zC_of hv h6 (mm_N hfu hv h6)) (fun c q' b v _ _ h h6 hb => ?_) fun k r v q h h6 => ?_
          · refine zC_seq (zC_of h h6 (mm_V hfu h h6)) (fun c q' b v _ _ h h6 hb => ?_) fun k r v q h h6 => mx_59 hfu hLL ym_c0 h h6
            exact zC_ok (Nat.le_refl _) ⟨v, rfl, h, h6, trivial⟩
          · exact yx_seq2 (mx_V hfu ym_c0 h h6) fun r v q h h6 => mx_59 hfu hLL ym_c0 h h6
      · obtain ⟨n, hn'⟩ : ∃ n, fu = n + 1 := ⟨fu - 1, by omega⟩
        conv => arg 4; arg 2; rw [hn']
        exact mx_59 hfu hLL ym_c0 h h6
    · rw [if_neg hc, if_neg (fun z => hc ((yn_sz hN hq hL8).mp z))]
      exact zC_no (yx_seq (mm_fail h h6) fun r v q h h6 => mx_30 (by decide) h h6)
  · refine yx_ite (fun _ => mx_30 ym_c0 h h6) fun _ => ?_
    exact yx_seq (mx_fail ym_c0 h h6) fun r v q h h6 => mx_30 ym_c0 h h6
end
