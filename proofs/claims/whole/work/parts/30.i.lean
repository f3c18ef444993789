section
variable {α β γ δ σ τ : Type} {B : Nat → Int32} {u v w x u0 : xk_St} {g : Nat → Nat} {T : List (Nat × List Nat × List Nat)} {F : List Nat} {G : List (Nat × Nat × Nat × Int64)} {L : List Nat} {n fu tc mc lim p q len f : Nat} {Q Q' : List sFr} {s : Option (List sFr)}
/-- the outermost block is opened, by the reference -/
theorem mr_open0 {e : Nat} {t : Option Nat ⊕ Int64} (h22 : v.1 22 = 0) (h21 : v.1 21 = 0) (h23 : v.1 23 = 0) (hk : sb_ok T t) (hr : sb_rd t) : ∃ w, fm_Model_open (0 : Int32) (yb_m t) v = some ((), w) ∧ mS T [((e, 0), 0, t, false, [])] w ∧ yf_fr [22] [] [23, 24, 25, 26] [1] v w := by
  unfold fm_Model_open
  simp only [xs_let]
  rw [h22, if_neg (show ¬ (0 : Int32) = 100 by decide), if_neg (show ¬ ((0 : Int32) < 0 ∨ 101 ≤ (0 : Int32).toNatClampNeg) by decide), show (0 : Int32).toNatClampNeg = 0 from rfl]
  have a1 : (xs_A v 24 0 0).1 22 = 0 := h22
  rw [a1, if_neg (show ¬ ((0 : Int32) < 0 ∨ 101 ≤ (0 : Int32).toNatClampNeg) by decide), show (0 : Int32).toNatClampNeg = 0 from rfl]
  have a2 : (xs_B (xs_A v 24 0 0) 1 0 (yb_m t)).1 22 = 0 := h22
  have a2' : (xs_B (xs_A v 24 0 0) 1 0 (yb_m t)).1 23 = 0 := h23
  rw [a2, a2', if_neg (show ¬ ((0 : Int32) < 0 ∨ 101 ≤ (0 : Int32).toNatClampNeg) by decide), show (0 : Int32).toNatClampNeg = 0 from rfl]
  have a3 : (xs_A (xs_B (xs_A v 24 0 0) 1 0 (yb_m t)) 23 0 0).1 22 = 0 := h22
  have a3' : (xs_A (xs_B (xs_A v 24 0 0) 1 0 (yb_m t)) 23 0 0).1 21 = 0 := h21
  rw [a3, a3', if_neg (show ¬ ((0 : Int32) < 0 ∨ 101 ≤ (0 : Int32).toNatClampNeg) by decide), show (0 : Int32).toNatClampNeg = 0 from rfl]
  have a4 : (xs_A (xs_A (xs_B (xs_A v 24 0 0) 1 0 (yb_m t)) 23 0 0) 25 0 0).1 22 = 0 := h22
  rw [a4, if_neg (show ¬ ((0 : Int32) < 0 ∨ 101 ≤ (0 : Int32).toNatClampNeg) by decide), show (0 : Int32).toNatClampNeg = 0 from rfl, show vp_nar .boolean (0 : Int32) = 0 by decide]
  have a5 : (xs_A (xs_A (xs_A (xs_B (xs_A v 24 0 0) 1 0 (yb_m t)) 23 0 0) 25 0 0) 26 0 0).1 22 = 0 := h22
  rw [a5]
  refine ⟨_, rfl, ?_, yf_I (yf_A (yf_A (yf_A (yf_B (yf_A yf_refl (by decide)) (by decide)) (by decide)) (by decide)) (by decide)) (by decide)⟩
  refine ⟨rfl, by show (1 : Nat) ≤ 100; decide, h21, by show (0 : Nat) ≤ 100; decide, fun i c hc => by simp [sq_f] at hc, ⟨⟨?_, by show (0 : Nat) < 8192; decide, ?_, ?_, ?_, ?_⟩, trivial⟩, ⟨fun i c hc => by simp at hc, ⟨hk, hr, by show (0 : Nat) < 10; decide⟩, trivial⟩⟩
  · show upd (v.2.2.1 23) 0 (0 : Int32) 0 = (0 : Int32)
    exact ya_t
  · show upd (v.2.2.1 24) 0 (0 : Int32) 0 = (0 : Int32)
    exact ya_t
  · show vp_updL (v.2.2.2 1) 0 (yb_m t) 0 = yb_m t
    exact yb_t
  · show upd (v.2.2.1 25) 0 (0 : Int32) 0 = (0 : Int32)
    exact ya_t
  · show upd (v.2.2.1 26) 0 (0 : Int32) 0 = (0 : Int32)
    exact ya_t
/-- the outermost block leaves no mark at its place -/
theorem mc_check {t e d sz : Nat} {c : Nat × List Nat × List Nat} {l : List (Nat × sIn)} (hfu : 8400 ≤ fu) (hcode : yp_code B lim d [false] p = .inl (l, q)) (hB : v.2.2.1 1 = B) (h4 : v.1 4 = nI p) (h11 : v.2.2.1 11 f = nI lim) (hp : p ≤ lim ∧ lim ≤ 8192) (h6 : v.1 6 = 0) (h7 : v.1 7 = 0) (hE : yTM T v) (hEn : mEn T F tc mc G v) (hLo : mLo T L f v) (hF : F[f]? = some t) (hc : T[t]? = some c) (h96 : c.1 = 96) (hp0 : 0 < p) :
    ∃ w, fm_Model_check fu (nI f) v = some ((), w) ∧ mCf v w ∧ (w.1 7 = 0 → ∀ k, k < p → ¬ k = 0 → w.2.2.1 20 k = v.2.2.1 20 k ∧ w.2.2.1 21 k = v.2.2.1 21 k) ∧ (((∃ Q', sq_run T F tc mc G L e l (sq_0 sz t) = some Q') ∧ w.1 7 = 0 ∧ mNt T F tc mc G L e l q (sq_0 sz t) w ∧ ∀ (j : Nat) Qj, j ≤ l.length → sq_run T F tc mc G L e (l.take j) (sq_0 sz t) = some Qj → sQb T Qj) ∨ (sq_run T F tc mc G L e l (sq_0 sz t) = none ∧ w.1 7 = 1)) := by
  have hf64 : f < 64 := by have := yl_lt hF; have := hEn.2.1; omega
  have ht64 : t < 64 := by have := yl_lt hc; have := hE.2.1.1; omega
  obtain ⟨k1, k2⟩ := hEn.2.2.1 f t hF
  obtain ⟨b1, b2, b3, b4⟩ := sb_0 hc h96 ht64
  unfold fm_Model_check
  simp only [xs_let]
  rw [if_neg (nI_in (N := 64) hf64 (by decide)), if_neg (nI_in (N := 64) hf64 (by decide)), nI_clamp (by omega)]
  generalize hx : xs_I (xs_I (xs_I (xs_I v 21 0) 22 0) 23 0) 5 ((xs_I (xs_I (xs_I v 21 0) 22 0) 23 0).2.2.1 11 f) = x
  have hfx : yf_fr [5, 21, 22, 23] [] [] [] v x := by
    rw [← hx]
    exact yf_I (yf_I (yf_I (yf_I yf_refl (by decide)) (by decide)) (by decide)) (by decide)
  have x5 : x.1 5 = nI lim := by rw [← hx, ← h11]; rfl
  have x22 : x.1 22 = 0 := by rw [← hx]; rfl
  have x21 : x.1 21 = 0 := by rw [← hx]; rfl
  have x23 : x.1 23 = 0 := by rw [← hx]; rfl
  have x9 : x.2.2.1 9 f = nI t := by rw [hfx.2.2.1 9 (by decide)]; exact k1
  rw [x9, nI_toL (by omega)]
  obtain ⟨y, e1, hS, hfy⟩ := mr_open0 (T := T) (e := sz) (t := .inr (lN t)) x22 x21 x23 b1 b2
  have e1 : fm_Model_open (0 : Int32) (lN t) x = some ((), y) := e1
  rw [e1, ys_seq]
  have hvy : yf_fr [5, 21, 22, 23] [] [23, 24, 25, 26] [1] v y := yf_trans (yf_mono hfx (by decide)) (yf_mono hfy (by decide))
  have hst : ym_st B lim p y := ⟨by rw [hvy.2.2.1 1 (by decide)]; exact hB, by rw [hvy.1 4 (by decide)]; exact h4, by rw [hfy.1 5 (by decide)]; exact x5, hp.1, hp.2⟩
  have hll := yp_code_len hcode
  have hqq := yp_code_ge hp.1 hcode
  obtain ⟨w, w1, w2, w3, w4⟩ := mc_run (T := T) (F := F) (G := G) (L := L) (tc := tc) (mc := mc) (f := f) (B := B) hfu l e d p q fu [false] (sq_0 sz t) y hcode ⟨(fun y => by cases y), trivial⟩ (by omega) hst ((hvy.1 6 (by decide)).trans h6) ((hvy.1 7 (by decide)).trans h7) hS (yTM_fr hE hvy (by decide)) (mEn_fr hEn hvy (by decide)) (mLo_fr hLo hvy (by decide)) ⟨⟨hp0, trivial⟩, fun g hg h4 => by
    rw [List.mem_singleton.mp hg] at h4
    exact absurd (show (0 : Nat) = 4 from h4) (by decide)⟩
  refine ⟨w, w1, ⟨yf_trans (yf_mono hvy (by decide)) w2.1, by rw [w2.2.1, hvy.1 3 (by decide)], w2.2.2⟩, fun w7 k hk hk0 => ?_, w4⟩
  obtain ⟨a1, a2⟩ := w3 w7 k hk
  rw [a1 (fun y => hk0 (List.mem_singleton.mp y)), a2 (fun g hg _ => by rw [List.mem_singleton.mp hg]; exact (by decide : ¬ (0 : Nat) = 4)), hvy.2.2.1 20 (by decide), hvy.2.2.1 21 (by decide)]
  exact ⟨rfl, rfl⟩
end
