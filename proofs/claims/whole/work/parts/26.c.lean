section
variable {α β γ δ : Type} {B : Nat → Int32} {u v w : xk_St} {L lim p q fu : Nat} {e : Int32}
/-- groups of locals, an entry each -/
def yi_locs (sz : Nat) (u : xk_St) (l : List (Nat × Nat)) (v : xk_St) : Prop := v.1 8 = nI (sz + l.length) ∧ (∀ i c, l[i]? = some c → v.2.2.1 7 (sz + i) = 8 ∧ v.2.2.1 8 (sz + i) = nI (yn_c c.1) ∧ v.2.2.2 2 (sz + i) = lN (yv_h c.2)) ∧ (∀ j, j < sz → v.2.2.1 7 j = u.2.2.1 7 j ∧ v.2.2.1 8 j = u.2.2.1 8 j ∧ v.2.2.2 2 j = u.2.2.2 2 j) ∧ yf_fr [8, 17] [] [7, 8] [2] u v ∧ ∃ p, v.1 17 = nI p ∧ sz + l.length ≤ p ∧ p ≤ 8192
theorem nI_toL {n : Nat} (h : n < 2 ^ 31) : (nI n).toInt64 = lN n := by
  rw [yz_i, Int32.toInt_toInt64, nI_toInt h, lN_toInt (by omega)]
theorem yl_snoc {l : List α} {c d : α} {i : Nat} (hi : (l ++ [c])[i]? = some d) : (i < l.length ∧ l[i]? = some d) ∨ (i = l.length ∧ d = c) := by
  by_cases hc : i < l.length
  · rw [List.getElem?_append_left hc] at hi
    exact Or.inl ⟨hc, hi⟩
  · rw [List.getElem?_append_right (by omega)] at hi
    have h0 : i - l.length = 0 := by
      by_cases z : i - l.length = 0
      · exact z
      · rw [List.getElem?_eq_none (by simp; omega)] at hi; cases hi
    rw [h0] at hi
    cases hi
    exact Or.inr ⟨by omega, rfl⟩
theorem hh_loc7 {sz N : Nat} (hfu : 20 ≤ fu) (hn : lim + 2 ≤ fu) (h8 : u.1 8 = nI sz) (hsz : sz ≤ p) (h : yh_st B lim p u) : yC p (jb_Reader_readLocals_7 fu fu (nI (yn_c N)) (0 : Int32) u) (yp_rep (yp_loc B lim) N p) (yJ B lim fun l _ v => yi_locs sz u l v) := by
  have := yC_rep (B := B) (lim := lim) (it := yp_loc B lim) yp_loc_eats (yi_locs sz u) N (fun n k v => jb_Reader_readLocals_7 fu n (nI (yn_c N)) (nI k) v) (fun v => some (.inl (), v)) ?_ ?_ (lim - p + 1) [] p fu u (by omega) (by omega) (Nat.zero_le _) (Nat.zero_le _) h ⟨h8, fun i c hi => by simp at hi, fun _ _ => ⟨rfl, rfl, rfl⟩, yf_refl, p, h.2.1, hsz, by have := h.2.2.2; omega⟩
  · refine yC_mono this fun l q e1 e2 hj => ?_
    obtain ⟨v, e3, e4, e5⟩ := hj
    exact ⟨(), v, e3, e4, by rw [List.nil_append] at e5; exact e5⟩
  · intro n k v hN hk
    show jb_Reader_readLocals_7 fu (n + 1) (nI (yn_c N)) (nI k) v = _
    unfold jb_Reader_readLocals_7
    simp only [xs_let]
    rw [if_pos ((yn_cl (by omega)).mpr hN)]
  · intro n l p v hl hl2 hv hI
    obtain ⟨i1, i2, i3, i4, p2, i5, i6, i7⟩ := hI
    have hp' : p2 = p := (nI_eq (by omega) (by have := hv.2.2.2; omega)).mp (i5.symm.trans hv.2.1)
    subst hp'
    show yC p2 (jb_Reader_readLocals_7 fu (n + 1) (nI (yn_c N)) (nI l.length) v) _ _
    conv => arg 2; unfold jb_Reader_readLocals_7
    unfold yp_loc
    simp only [xs_let]
    rw [if_neg (fun z => by have := (yn_cl (by omega)).mp z; omega), nI_1]
    refine yC_try (yC_of hv (hh_N hfu hv)) fun m q b w e1 e2 hw e3 => ?_
    obtain ⟨rfl, q', rfl⟩ := e3
    refine yC_try (yC_of hw (hh_V hfu hw)) fun c r b w f1 f2 hw2 f3 => ?_
    obtain ⟨rfl, r', rfl⟩ := f3
    rw [ys_II] at hw2 ⊢
    obtain ⟨-, hq1, hq2⟩ := yp_Nb e1
    have hr1 := yp_V_eats f1
    have hl8 := hv.2.2.2.2
    have hvb := yp_Vb f1
    rw [show (8 : Int32) = nI 8 from rfl, hh_add (sz := sz + l.length) (show (xs_I v 17 (nI r')).1 8 = _ from i1) (by omega) (by decide), ys_seq]
    have hlen : (l ++ [(m, c)]).length = l.length + 1 := by simp
    refine yC_ok (Nat.le_refl _) ⟨_, rfl, hw2, ?_, fun i d hi => ?_, fun j hj => ?_, ?_, r, hw2.2.1, by omega, by omega⟩
    · rw [hlen, ← Nat.add_assoc]; rfl
    · have hyv : yv_h c < 2 ^ 31 := by unfold yv_h; split <;> omega
      show upd (v.2.2.1 7) (sz + l.length) (nI 8) (sz + i) = _ ∧ upd (v.2.2.1 8) (sz + l.length) (nI (yn_c m)) (sz + i) = _ ∧ vp_updL (v.2.2.2 2) (sz + l.length) ((nI (yv_h c)).toInt64) (sz + i) = _
      rcases yl_snoc hi with ⟨z1, z2⟩ | ⟨z1, rfl⟩
      · rw [ya_j (by omega), ya_j (by omega), yb_j (by omega)]
        exact i2 i d z2
      · rw [z1, ya_t, ya_t, yb_t, nI_toL hyv]
        exact ⟨rfl, rfl, rfl⟩
    · show upd (v.2.2.1 7) (sz + l.length) (nI 8) j = _ ∧ upd (v.2.2.1 8) (sz + l.length) (nI (yn_c m)) j = _ ∧ vp_updL (v.2.2.2 2) (sz + l.length) ((nI (yv_h c)).toInt64) j = _
      rw [ya_j (by omega), ya_j (by omega), yb_j (by omega)]
      exact i3 j hj
    · exact yf_I (yf_B (yf_A (yf_A (yf_I i4 (by decide)) (by decide)) (by decide)) (by decide)) (by decide)
theorem hh_locals {sz : Nat} (hfu : 20 ≤ fu) (hn : lim + 2 ≤ fu) (h8 : u.1 8 = nI sz) (hsz : sz ≤ p) (h : yh_st B lim p u) : yC p (fm_Reader_readLocals fu u) (yp_then (yp_N B lim p) fun g r => yp_rep (yp_loc B lim) g r) (yJ B lim fun l _ v => yi_locs sz u l v) := by
  unfold fm_Reader_readLocals
  refine yC_try (yC_of h (hh_N hfu h)) fun N q b w e1 e2 hw e3 => ?_
  obtain ⟨rfl, q', rfl⟩ := e3
  refine yC_mono (hh_loc7 hfu hn (show (xs_I u 17 (nI q')).1 8 = nI sz from h8) (by omega) hw) fun l r f1 f2 hj => ?_
  obtain ⟨b, v, g1, g2, g3⟩ := hj
  exact ⟨b, v, g1, g2, g3.1, g3.2.1, g3.2.2.1, yf_trans (yf_I yf_refl (by decide)) g3.2.2.2.1, g3.2.2.2.2⟩
/-- body t as the class has it: entry sz is its beginning, locals and instructions follow -/
def yi_bd (v : xk_St) (t : Nat) (a : Nat × List (Nat × Nat) × List (Nat × Nat × (Option Nat ⊕ Int64) × Int64 × Nat × List Nat)) : Prop :=
  ∃ sz, v.2.2.1 13 t = nI sz ∧ v.2.2.1 7 sz = 6 ∧ (∀ i c, a.2.1[i]? = some c → v.2.2.1 7 (sz + 1 + i) = 8 ∧ v.2.2.1 8 (sz + 1 + i) = nI (yn_c c.1) ∧ v.2.2.2 2 (sz + 1 + i) = lN (yv_h c.2)) ∧ yk_body v [(sz, none)] (sz + 1 + a.2.1.length) a.2.2 ∧ ∃ m, v.1 8 = nI m ∧ sz + 1 + a.2.1.length + a.2.2.length ≤ m ∧ m ≤ 8192
/-- bodies stay when more is read behind them -/
def yk_add (u v : xk_St) : Prop := ∃ a b, u.1 8 = nI a ∧ v.1 8 = nI b ∧ a ≤ b ∧ b ≤ 8192 ∧ yk_F2 a [] u v
end
