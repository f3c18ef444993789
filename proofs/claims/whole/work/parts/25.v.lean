section
variable {α β γ δ : Type} {B : Nat → Int32} {u v w : xk_St} {L lim p q fu : Nat} {e : Int32}
/-- a number that stands in an instruction -/
def yx_n (t : Option Nat ⊕ Int64) : Nat := match t with
  | .inl _ => 0
  | .inr x => x.toInt.toNat
def yx_l (t : Option Nat ⊕ Int64) : Int64 := match t with
  | .inl _ => 0
  | .inr x => x
/-- what an entry of the code has for it -/
def ye_1 (s : Int32) (i : (Option Nat ⊕ Int64) × Int64 × Nat × List Nat) (ns : Nat) : Int32 := if s = 98 then nI (yb_h i.1) else if s = 114 then nI ns else if s = 116 then nI (yv_t (yx_n i.1)) else if s = 117 ∨ s = 119 then nI (yn_c (yx_n i.1)) else 0
def ye_2 (s : Int32) (i : (Option Nat ⊕ Int64) × Int64 × Nat × List Nat) : Int64 := if s = 105 ∨ s = 108 then yx_l i.1 else if s = 114 then lN i.2.2.2.length else if s = 119 then i.2.1 else 0
def yi_app (ns : Nat) (u : xk_St) (l : List Nat) (v : xk_St) : Prop := v.1 9 = nI (ns + l.length) ∧ (∀ i c, l[i]? = some c → v.2.2.1 11 (ns + i) = nI (yn_c c)) ∧ ∀ i, i < ns → v.2.2.1 11 i = u.2.2.1 11 i
def yi_ent (s : Int32) (op sz ns : Nat) (opn : Int32) (u : xk_St) (i : (Option Nat ⊕ Int64) × Int64 × Nat × List Nat) (b : Int32) (v : xk_St) : Prop :=
  v.1 8 = nI (sz + 1) ∧ v.2.2.1 7 = upd (u.2.2.1 7) sz (nI op) ∧ v.2.2.1 8 = upd (u.2.2.1 8) sz (ye_1 s i ns) ∧ v.2.2.2 2 = vp_updL (u.2.2.2 2) sz (ye_2 s i) ∧ (v.2.2.1 9 = if s = 98 then upd (u.2.2.1 9) sz opn else u.2.2.1 9) ∧ (b = if s = 98 then nI sz else opn) ∧ yi_app ns u (if s = 114 then i.2.2.2 ++ [yx_n i.1] else []) v ∧ yf_fr [8, 9, 17] [] [7, 8, 9, 11] [2] u v ∧ ∃ p, v.1 17 = nI p ∧ ns + (if s = 114 then i.2.2.2 ++ [yx_n i.1] else []).length ≤ p ∧ sz + 1 ≤ p ∧ p ≤ 8192
theorem yx_lN {n : Nat} (h : n < 2 ^ 63) : yx_n (.inr (lN n)) = n := by
  show (lN n).toInt.toNat = n
  rw [pk_lT h]; rfl
theorem hh_fin {s opn : Int32} {op sz ns r : Nat} {i : (Option Nat ⊕ Int64) × Int64 × Nat × List Nat} (hs : ¬ s = 98) (hs2 : ¬ s = 114) (ho : op < 287) (h8 : u.1 8 = nI sz) (h9 : u.1 9 = nI ns) (hz : sz < p) (hns : ns ≤ p) (hpq : p ≤ q) (hw : yh_st B lim q (xs_I u 17 (nI r))) :
    yC q (xs_seq (fm_Code_add (nI op) (ye_1 s i ns) (ye_2 s i) (xs_I u 17 (nI r))) fun _ u3 => some (Sum.inl opn, u3)) (.inl (i, q)) (yJ B lim fun i b v => yi_ent s op sz ns opn u i b v) := by
  have hl := hw.2.2.2
  rw [hh_add (sz := sz) (show (xs_I u 17 (nI r)).1 8 = nI sz from h8) (by omega) ho, ys_seq]
  refine yC_ok (Nat.le_refl _) ⟨_, _, rfl, hw, rfl, rfl, ?_, ?_, ?_, ?_, ?_, ?_, ?_⟩
  · rfl
  · rfl
  · rw [if_neg hs]; rfl
  · rw [if_neg hs]
  · rw [if_neg hs2]
    exact ⟨h9, fun i c hi => by simp at hi, fun _ _ => rfl⟩
  · exact yf_I (yf_B (yf_A (yf_A (yf_I yf_refl (by decide)) (by decide)) (by decide)) (by decide)) (by decide)
  · exact ⟨q, hw.2.1, by rw [if_neg hs2]; simp; omega, by omega, by omega⟩
theorem hh_opened {sz : Nat} {x : Int32} (hs : u.1 8 = nI (sz + 1)) (hz : sz < 8192) : fm_Code_opened x u = some (nI sz, xs_A u 9 sz x) := by
  unfold fm_Code_opened
  have h1 : ∀ i y, (xs_A u 9 i y).1 8 = nI (sz + 1) := fun _ _ => hs
  simp only [xs_let, hs, h1]
  rw [nI_pred, if_neg (nI_in (N := 8192) hz (by decide)), nI_clamp (by omega)]
/-- an instruction that is neither 0x05 nor 0x0b -/
theorem hh_43 {s opn : Int32} {op sz ns : Nat} (hs1 : ¬ s = 101) (hs2 : ¬ s = 110) (ho : op < 287) (hfu : 20 ≤ fu) (hn : lim + 2 ≤ fu) (h8 : u.1 8 = nI sz) (h9 : u.1 9 = nI ns) (hz : sz < p) (hns : ns < p) (h : yh_st B lim p u) :
    yC p (jb_Reader_readInstruction_43 fu opn (nI op) s u) (yp_imm B lim s p) (yJ B lim fun i b v => yi_ent s op sz ns opn u i b v) := by
  have hl := h.2.2.2
  have hu : u = xs_I u 17 (nI p) := (ys_Is h.2.1).symm
  unfold jb_Reader_readInstruction_43 yp_imm
  by_cases c1 : s = 45
  · rw [if_pos c1, if_pos c1]; exact yC_no
  rw [if_neg c1, if_neg c1]
  by_cases c2 : s = 46
  · rw [if_pos c2, if_pos c2]
    subst c2
    have := hh_fin (s := 46) (opn := opn) (i := (.inr 0, 0, 0, [])) (by decide) (by decide) ho h8 h9 hz (by omega) (Nat.le_refl p) (by rw [← hu]; exact h)
    rw [← hu] at this
    exact this
  rw [if_neg c2, if_neg c2]
  by_cases c3 : s = 98
  · rw [if_pos c3, if_pos c3]
    subst c3
    refine yC_try (yC_of h (hh_BT hfu h)) fun t q b w e1 e2 hw e3 => ?_
    obtain ⟨rfl, r, rfl⟩ := e3
    have hq := yp_BT_ge e1
    rw [hh_add (sz := sz) (show (xs_I u 17 (nI r)).1 8 = nI sz from h8) (by omega) ho, ys_seq, hh_opened (sz := sz) rfl (by omega), ys_seq]
    refine yC_ok (Nat.le_refl _) ⟨_, _, rfl, hw, rfl, rfl, rfl, rfl, ?_, ?_, ?_, ?_, ?_⟩
    · rw [if_pos rfl]; rfl
    · rw [if_pos rfl]
    · exact ⟨h9, fun i c hi => by simp at hi, fun _ _ => rfl⟩
    · exact yf_A (yf_I (yf_B (yf_A (yf_A (yf_I yf_refl (by decide)) (by decide)) (by decide)) (by decide)) (by decide)) (by decide)
    · exact ⟨q, hw.2.1, by rw [if_neg (by decide)]; simp; omega, by omega, by omega⟩
  rw [if_neg c3, if_neg c3, if_neg hs1, if_neg hs1]
  by_cases c5 : s = 105
  · rw [if_pos c5, if_pos c5]
    subst c5
    refine yC_try (yC_of' h (hh_S (w := 32) (by decide) hfu h)) fun x q b w e1 e2 hw e3 => ?_
    obtain ⟨rfl, r, rfl⟩ := e3
    exact hh_fin (s := 105) (i := (.inr b, 0, 0, [])) (by decide) (by decide) ho h8 h9 hz (by omega) e2 hw
  rw [if_neg c5, if_neg c5]
  by_cases c6 : s = 108
  · rw [if_pos c6, if_pos c6]
    subst c6
    refine yC_try (yC_of' h (hh_S (w := 64) (by decide) hfu h)) fun x q b w e1 e2 hw e3 => ?_
    obtain ⟨rfl, r, rfl⟩ := e3
    exact hh_fin (s := 108) (i := (.inr b, 0, 0, [])) (by decide) (by decide) ho h8 h9 hz (by omega) e2 hw
  rw [if_neg c6, if_neg c6, if_neg hs2, if_neg hs2]
  by_cases c8 : s = 114
  · rw [if_pos c8, if_pos c8]
    subst c8
    unfold fm_Reader_readWays
    simp only [xs_let, h9]
    have e0 : (yp_then (yp_N B lim p) fun n q => yp_then (yp_rep (yp_N B lim) n q) fun l r => yp_then (yp_N B lim r) fun m r => (.inl ((.inr (lN m), 0, q, l), r) : (((Option Nat ⊕ Int64) × Int64 × Nat × List Nat) × Nat) ⊕ Nat)) = yp_then (yp_N B lim p) fun n q => yp_then (yp_then (.inl (n, q)) fun n q => yp_rep (yp_N B lim) n q) fun l r => yp_then (yp_N B lim r) fun m r => .inl ((.inr (lN m), 0, q, l), r) := rfl
    have hnm := hh_nums hfu hn h9 (by omega) h
    rcases hnm with ⟨l, q, f1, f2, b, w, f3, hw, f4⟩ | ⟨k, w, f1, f2⟩
    · obtain ⟨n, q0, g1, g2⟩ := yp_thenI f1
      obtain ⟨rfl, i1, i2, i3, i4, p2, i5, i6, i7⟩ := f4
      have hp2 : p2 = q := (nI_eq (by omega) (by have := hw.2.2.2; omega)).mp (i5.symm.trans hw.2.1)
      subst hp2
      rw [g1, f3, ys_tryl]
      show yC p (xs_try (xs_try (fm_Reader_readNumber fu w) _) _) (yp_then (yp_rep (yp_N B lim) n q0) _) _
      rw [g2]
      show yC p _ (yp_then (yp_N B lim p2) _) _
      have hq0 := yp_Nb g1
      rcases yC_of hw (hh_N hfu hw) with ⟨m, r, m1, m2, b2, w2, m3, hw2, m4, r', m5⟩ | ⟨k, w2, m1, m2⟩
      · subst m4
        subst m5
        obtain ⟨hm32, hr1, hr2⟩ := yp_Nb m1
        rw [m1, m3, ys_tryl, hh_addN (ns := ns + l.length) (show (xs_I w 17 (nI r')).1 9 = _ from i1) (by omega), ys_seq]
        have h8w : w.1 8 = nI sz := (i4.1 8 (by decide)).trans h8
        rw [hh_add (sz := sz) (show (xs_I (xs_A (xs_I w 17 (nI r')) 11 (ns + l.length) (nI (yn_c m))) 9 (nI (ns + l.length + 1))).1 8 = nI sz from h8w) (by omega) ho, ys_seq, ys_tryl]
        have hlen : (l ++ [m]).length = l.length + 1 := by simp
        have hl14 : (if (114 : Int32) = 114 then l ++ [yx_n (.inr (lN m))] else []) = l ++ [m] := by rw [if_pos rfl, yx_lN (by omega)]
        refine yC_ok (by omega) ⟨_, _, rfl, hw2, rfl, ?_, ?_, ?_, ?_, ?_, ?_, ?_, ?_⟩
        · show upd (w.2.2.1 7) sz _ = _
          rw [i4.2.2.1 7 (by decide)]
        · show upd (w.2.2.1 8) sz _ = _
          rw [i4.2.2.1 8 (by decide)]; rfl
        · show vp_updL (w.2.2.2 2) sz _ = _
          rw [i4.2.2.2 2 (by decide), nI_l (by omega)]; rfl
        · rw [if_neg (by decide)]; exact i4.2.2.1 9 (by decide)
        · rw [if_neg (by decide)]
        · rw [hl14]
          refine ⟨?_, fun i d hi => ?_, fun i hi => ?_⟩
          · rw [hlen, ← Nat.add_assoc]; rfl
          · show upd (w.2.2.1 11) (ns + l.length) (nI (yn_c m)) (ns + i) = _
            by_cases hc : i < l.length
            · rw [List.getElem?_append_left hc] at hi
              rw [upd, if_neg (by omega)]
              exact i2 i d hi
            · rw [List.getElem?_append_right (by omega)] at hi
              have h0 : i - l.length = 0 := by
                by_cases z : i - l.length = 0
                · exact z
                · rw [List.getElem?_eq_none (by simp; omega)] at hi; cases hi
              rw [h0] at hi
              cases hi
              rw [upd, if_pos (by omega)]
          · show upd (w.2.2.1 11) (ns + l.length) (nI (yn_c m)) i = _
            rw [upd, if_neg (by omega)]
            exact i3 i hi
        · exact yf_I (yf_B (yf_A (yf_A (yf_I (yf_A (yf_I (yf_mono i4 (by decide)) (by decide)) (by decide)) (by decide)) (by decide)) (by decide)) (by decide)) (by decide)
        · exact ⟨r, hw2.2.1, by rw [hl14, hlen]; omega, by omega, by omega⟩
      · rw [m1, m2, ys_tryr, ys_tryr]
        exact yC_no
    · rw [f2, ys_tryr, ys_tryr]
      have : (yp_then (yp_N B lim p) fun n q => yp_then (yp_rep (yp_N B lim) n q) fun l r => yp_then (yp_N B lim r) fun m r => (.inl ((.inr (lN m), 0, q, l), r) : (((Option Nat ⊕ Int64) × Int64 × Nat × List Nat) × Nat) ⊕ Nat)) = .inr k := by
        generalize yp_N B lim p = s at f1 ⊢
        rcases s with ⟨n, q⟩ | k'
        · simp only [yp_then] at f1 ⊢
          rw [f1]
        · cases f1; rfl
      rw [this]
      exact yC_no
  rw [if_neg c8, if_neg c8]
  by_cases c9 : s = 116
  · rw [if_pos c9, if_pos c9]
    subst c9
    refine yC_try (yC_of h (hh_T hfu h)) fun t q b w e1 e2 hw e3 => ?_
    obtain ⟨rfl, r, rfl⟩ := e3
    have ht := yp_Tb e1
    have := hh_fin (s := 116) (opn := opn) (i := (.inr (lN t), 0, 0, [])) (by decide) (by decide) ho h8 h9 hz (by omega) e2 hw
    have e4 : ye_1 116 (.inr (lN t), 0, 0, []) ns = nI (yv_t t) := by
      show nI (yv_t (yx_n (.inr (lN t)))) = _
      rw [yx_lN (by omega)]
    rw [e4] at this
    exact this
  rw [if_neg c9, if_neg c9]
  by_cases c10 : s = 117
  · rw [if_pos c10, if_pos c10]
    subst c10
    refine yC_try (yC_of h (hh_N hfu h)) fun t q b w e1 e2 hw e3 => ?_
    obtain ⟨rfl, r, rfl⟩ := e3
    have ht := yp_Nb e1
    have := hh_fin (s := 117) (opn := opn) (i := (.inr (lN t), 0, 0, [])) (by decide) (by decide) ho h8 h9 hz (by omega) e2 hw
    have e4 : ye_1 117 (.inr (lN t), 0, 0, []) ns = nI (yn_c t) := by
      show nI (yn_c (yx_n (.inr (lN t)))) = _
      rw [yx_lN (by omega)]
    rw [e4] at this
    exact this
  rw [if_neg c10, if_neg c10]
  by_cases c11 : s = 119
  · rw [if_pos c11, if_pos c11]
    subst c11
    refine yC_try (yC_of h (hh_N hfu h)) fun t q b w e1 e2 hw e3 => ?_
    obtain ⟨rfl, r, rfl⟩ := e3
    have ht := yp_Nb e1
    have hU := hh_U hfu hw
    rw [yp_UN] at hU
    refine yC_try (yC_of hw hU) fun m q2 b w e4 e5 hw2 e6 => ?_
    obtain ⟨rfl, r2, rfl⟩ := e6
    rw [ys_II] at hw2 ⊢
    have := hh_fin (s := 119) (opn := opn) (i := (.inr (lN t), lN m, 0, [])) (by decide) (by decide) ho h8 h9 hz (by omega) (by omega) hw2
    have e4 : ye_1 119 (.inr (lN t), lN m, 0, []) ns = nI (yn_c t) := by
      show nI (yn_c (yx_n (.inr (lN t)))) = _
      rw [yx_lN (by omega)]
    rw [e4] at this
    exact this
  rw [if_neg c11, if_neg c11]
  by_cases c12 : s = 122
  · rw [if_pos c12, if_pos c12]
    subst c12
    refine yC_try (yC_of' h (hh_want h)) fun x q b w e1 e2 hw e3 => ?_
    obtain ⟨-, r, rfl⟩ := e3
    exact hh_fin (s := 122) (i := (.inr 0, 0, 0, [])) (by decide) (by decide) ho h8 h9 hz (by omega) e2 hw
  rw [if_neg c12, if_neg c12]
  exact yC_no
end
