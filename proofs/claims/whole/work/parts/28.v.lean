section
variable {α β γ δ σ τ : Type} {B : Nat → Int32} {u v w z u0 u1 : xk_St} {lim p q : Nat} {T : List (Nat × List Nat × List Nat)} {F : List Nat} {G : List (Nat × Nat × Nat × Int64)} {L : List Nat} {n fu tc mc : Nat} {Q Q' Q1 : List sFr} {h : Nat → Nat}
abbrev sBo : Type := Nat × List (Nat × Nat) × List (Nat × sIn)
/-- the outermost block of a body -/
def sq_0 (sz t : Nat) : List sFr := [((sz, 0), 0, .inr (lN t), false, [])]
/-- a body, by the document: t its function's type, which is c -/
noncomputable def sq_body (T : List (Nat × List Nat × List Nat)) (F : List Nat) (tc mc : Nat) (G : List (Nat × Nat × Nat × Int64)) (sz t : Nat) (c : Nat × List Nat × List Nat) (a : sBo) : Option (List Nat) :=
  (sq_dcl T a.2.1 c.2.1).bind fun L => (sq_run T F tc mc G L (sz + 1 + a.2.1.length) a.2.2 (sq_0 sz t)).bind fun _ => some L
theorem yk_bodyF : ∀ {l : List (Nat × sIn)} {ol : List (Nat × Option Nat)} {k : Nat}, (∀ j, k ≤ j → w.2.2.1 7 j = u.2.2.1 7 j ∧ w.2.2.1 8 j = u.2.2.1 8 j ∧ w.2.2.2 2 j = u.2.2.2 2 j) → w.2.2.1 9 = u.2.2.1 9 → w.2.2.1 11 = u.2.2.1 11 → w.1 9 = u.1 9 → yk_body u ol k l → yk_body w ol k l := by
  intro l
  induction l with
  | nil => intro ol k _ _ _ _ _; exact trivial
  | cons x r ih =>
    intro ol k h1 h9 h11 hi hb
    refine ⟨?_, ih (fun j hj => h1 j (by omega)) h9 h11 hi hb.2⟩
    obtain ⟨a, b, c⟩ := h1 k (Nat.le_refl _)
    have hb1 := hb.1
    unfold yk_ent at hb1 ⊢
    rw [a, b, c, h9, h11, hi]
    exact hb1
/-- parameters become the first locals -/
theorem hc_pars {f t sz : Nat} {c : Nat × List Nat × List Nat} (he : yCe T u) (hc : T[t]? = some c) (h6 : c.1 = 96) (h22 : u.1 22 = nI c.2.1.length) : ∀ (j k n : Nat) (v : xk_St), k + j = c.2.1.length → j < n → yf_fr [] [] [36] [] u v → (∀ (i : Nat) d, i < k → c.2.1[i]? = some d → v.2.2.1 36 i = nI (yu d)) → ∃ w n', jb_Checker_checkBody_42 fu n (nI f) (nI t) (nI sz) (nI k) v = jb_Checker_checkBody_42 fu (n' + 1) (nI f) (nI t) (nI sz) (nI c.2.1.length) w ∧ yf_fr [] [] [36] [] u w ∧ ∀ (i : Nat) d, c.2.1[i]? = some d → w.2.2.1 36 i = nI (yu d) := by
  intro j
  induction j with
  | zero =>
    intro k n v hk hn hf ha
    obtain ⟨n, rfl⟩ : ∃ m, n = m + 1 := ⟨n - 1, by omega⟩
    obtain rfl : k = c.2.1.length := by omega
    exact ⟨v, n, rfl, hf, fun i d hd => ha i d (yl_lt hd) hd⟩
  | succ j ih =>
    intro k n v hk hn hf ha
    obtain ⟨n, rfl⟩ : ∃ m, n = m + 1 := ⟨n - 1, by omega⟩
    obtain ⟨d, hd⟩ := yl_get (l := c.2.1) (k := k) (by omega)
    obtain ⟨-, n2, -, -⟩ := yCe_n he hc
    have hst : jb_Checker_checkBody_42 fu (n + 1) (nI f) (nI t) (nI sz) (nI k) v = jb_Checker_checkBody_42 fu n (nI f) (nI t) (nI sz) (nI (k + 1)) (xs_A v 36 k (nI (yv_h d))) := by
      conv => lhs; unfold jb_Checker_checkBody_42
      simp only [xs_let]
      rw [hf.1 22 (by decide), h22, if_neg (nI_ge (by omega) (by omega)), yCe_m (yCe_fr he hf (by decide)) hc hd, ys_seq, if_neg (nI_in (N := 200) (by omega) (by decide)), nI_clamp (by omega), nI_1]
    have hnew : ∀ (i : Nat) d', i < k + 1 → c.2.1[i]? = some d' → (xs_A v 36 k (nI (yv_h d))).2.2.1 36 i = nI (yu d') := fun i d' hi hd' => by
      show upd (v.2.2.1 36) k (nI (yv_h d)) i = _
      by_cases zi : i = k
      · subst zi
        rw [hd] at hd'; cases hd'
        rw [ya_t, yu_h (yCe_mv he hc hd).2.2.1]
      · rw [ya_j zi]
        exact ha i d' (by omega) hd'
    obtain ⟨w, n', w1, w2, w3⟩ := ih (k + 1) n (xs_A v 36 k (nI (yv_h d))) (by omega) (by omega) (yf_A hf (by decide)) hnew
    exact ⟨w, n', hst.trans w1, w2, w3⟩
theorem sb_0 {t : Nat} {c : Nat × List Nat × List Nat} (hc : T[t]? = some c) (h6 : c.1 = 96) (h64 : t < 64) : sb_ok T (.inr (lN t)) ∧ sb_rd (.inr (lN t)) ∧ yb_h (.inr (lN t)) = 1024 + t ∧ sb_n (lN t) = t := by
  have e : sb_n (lN t) = t := sb_nL (by omega)
  have h0 : (0 : Int64) ≤ lN t := (pk_lLE (a := 0) (by omega) (by omega)).mpr (Nat.zero_le _)
  refine ⟨⟨h0, ?_⟩, h0, ?_, e⟩
  · rw [e]; exact ⟨c, hc, h6⟩
  · show 1024 + yc_64 (lN t) = _
    unfold yc_64
    rw [if_neg (fun y => by have := (pk_lLT (a := 64) (by omega) (by omega)).mp y; omega)]
    show 1024 + sb_n (lN t) = _
    rw [e]
/-- what the check of body f leaves -/
def sBd (T : List (Nat × List Nat × List Nat)) (F : List Nat) (tc mc : Nat) (G : List (Nat × Nat × Nat × Int64)) (h : Nat → Nat) (f t sz : Nat) (c : Nat × List Nat × List Nat) (a : sBo) (u : xk_St) (L : List Nat) (v : xk_St) : Prop :=
  yf_fr [19, 20, 21, 22] [] [8, 9, 10, 11, 14, 33, 34, 35, 36] [2] u v ∧ (∀ j, j < sz ∨ sz + 1 + a.2.1.length + a.2.2.length ≤ j → v.2.2.1 8 j = u.2.2.1 8 j ∧ v.2.2.1 9 j = u.2.2.1 9 j ∧ v.2.2.1 10 j = u.2.2.1 10 j ∧ v.2.2.2 2 j = u.2.2.2 2 j) ∧ (∀ j, ¬ j = sz → v.2.2.1 8 j = u.2.2.1 8 j) ∧ (∀ j, ¬ sbr (u.2.2.1 7 j) → v.2.2.1 9 j = u.2.2.1 9 j) ∧ (∀ i, i < h sz ∨ h (sz + 1 + a.2.1.length + a.2.2.length) ≤ i → v.2.2.1 11 i = u.2.2.1 11 i) ∧ v.2.2.1 14 = upd (u.2.2.1 14) f (nI L.length) ∧ v.2.2.1 8 sz = nI (1024 + t) ∧ v.2.2.1 10 sz = 0 ∧ v.2.2.2 2 sz = lN c.2.2.length ∧ (L.length ≤ 200 ∧ ∀ (i : Nat) d, L[i]? = some d → yvw T.length d ∧ yvs T.length d) ∧ ∀ (j : Nat) x Qj Qn, a.2.2[j]? = some x → sq_run T F tc mc G L (sz + 1 + a.2.1.length) (a.2.2.take j) (sq_0 sz t) = some Qj → sq_step T F tc mc G L (sz + 1 + a.2.1.length + j) x.1 x.2 Qj = some Qn → sRF T x.2 (sz + 1 + a.2.1.length + j) Qj Qn v
end
