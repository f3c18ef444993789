section
variable {α β γ δ σ τ : Type} {B : Nat → Int32} {u v w x u0 : xk_St} {g : Nat → Nat} {T : List (Nat × List Nat × List Nat)} {F : List Nat} {G : List (Nat × Nat × Nat × Int64)} {L : List Nat} {n fu tc mc lim p q len f D k : Nat} {Q Q' : List sFr} {z : Nat → Nat} {a : sBo} {S : Nat → Option (Nat × Nat)} {l10 : List sBo}
theorem yl_body (hl : lim ≤ len) : yp_le (yp_body D B lim p) (yp_body D B len p) := yl_then (yl_N hl) fun n q _ => by
  refine fun a ha => ?_
  by_cases z : n ≤ lim - q
  · rw [if_pos z] at ha
    rw [if_pos (show n ≤ len - q by omega)]
    exact ha
  · rw [if_neg z] at ha; cases ha
theorem yv_bdN {t : Nat} {c : Nat × List Nat × List Nat} (hF : F[k]? = some t) (hc : T[t]? = some c) (h : sq_body T F tc mc G (z k) t c a = none) : ¬ yv_bd T F tc mc G z k a := fun ⟨t', c', L, h1, h2, h3⟩ => by
  rw [hF] at h1; cases h1
  rw [hc] at h2; cases h2
  rw [h] at h3; cases h3
/-- all bodies, by the reference -/
theorem mc_57 (hfu : 8400 ≤ fu) (hl : l10.length = F.length) : ∀ (m k p e n : Nat) (v : xk_St), k + m = l10.length → m < n → yp_rep (yp_body D B len) m p = .inl (l10.drop k, e) → yTM T v → mEn T F tc mc G v → ym_st B len p v → v.1 6 = 0 → v.1 7 = 0 → v.1 3 = nI len → (∀ j a, j < k → l10[j]? = some a → a.1 ≤ p ∧ mBd D B T F tc mc G z j a v) →
    ∃ w, jb_Model_bodyRow_57 fu n (nI k) v = some ((), w) ∧ mBf v w ∧ w.1 6 = 0 ∧ (((∀ (j : Nat) a, k ≤ j → l10[j]? = some a → yv_bd T F tc mc G z j a) ∧ w.1 7 = 0 ∧ ∀ (j : Nat) a, l10[j]? = some a → mBd D B T F tc mc G z j a w) ∨ ((¬ ∀ (j : Nat) a, k ≤ j → l10[j]? = some a → yv_bd T F tc mc G z j a) ∧ w.1 7 = 1)) := by
  intro m
  induction m with
  | zero =>
    intro k p e n v hk hn hp hE hEn hst h6 h7 h3 hd
    obtain ⟨n, rfl⟩ : ∃ m, n = m + 1 := ⟨n - 1, by omega⟩
    unfold jb_Model_bodyRow_57
    simp only [xs_let]
    have hFl := hEn.2.1
    rw [hEn.1, if_pos (nI_le (by omega) (by omega))]
    refine ⟨v, rfl, yf_refl, h6, Or.inl ⟨fun j a hj ha => ?_, h7, fun j a ha => (hd j a ?_ ha).2⟩⟩
    · have := yl_lt ha; omega
    · have := yl_lt ha; omega
  | succ m ih =>
    intro k p e n v hk hn hp hE hEn hst h6 h7 h3 hd
    obtain ⟨n, rfl⟩ : ∃ m, n = m + 1 := ⟨n - 1, by omega⟩
    obtain ⟨a, q, h1, hp⟩ := yp_thenI (show yp_then (yp_body D B len p) (fun a q => yp_then (yp_rep (yp_body D B len) m q) fun l r => .inl (a :: l, r)) = _ from hp)
    obtain ⟨l', e', h2, hp⟩ := yp_thenI hp
    have hdr : a :: l' = l10.drop k := congrArg Prod.fst (Sum.inl.inj hp)
    have hak : l10[k]? = some a := by
      have : (l10.drop k)[0]? = some a := by rw [← hdr]; rfl
      rw [List.getElem?_drop] at this
      exact this
    have hl' : l' = l10.drop (k + 1) := by
      have : (l10.drop k).drop 1 = l' := by rw [← hdr]; rfl
      rw [← this, List.drop_drop]
    obtain ⟨t, hF⟩ := yl_get (l := F) (k := k) (by omega)
    obtain ⟨k1, c, hc, h96⟩ := hEn.2.2.1 k t hF
    obtain ⟨w, w1, w2, w3, w4, w5, w6, w7⟩ := mc_body1 (fu := fu) (z := z) (k := k) hfu h1 hE hEn hF hc h96 hst h6 h7 h3
    rw [w1 n]
    rcases w7 with ⟨⟨L, b1⟩, b2, b3, b4⟩ | ⟨b1, b2⟩
    · have hyk : yv_bd T F tc mc G z k a := ⟨t, c, L, hF, hc, b1⟩
      have hd' : ∀ j b, j < k + 1 → l10[j]? = some b → b.1 ≤ q ∧ mBd D B T F tc mc G z j b w := fun j b hj hb => by
        by_cases zj : j = k
        · subst zj; rw [hak] at hb; cases hb
          exact ⟨by omega, b3⟩
        · obtain ⟨d1, d2⟩ := hd j b (by omega) hb
          exact ⟨by omega, b4 j b zj d1 d2⟩
      obtain ⟨y, y1, y2, y3, y4⟩ := ih (k + 1) q e' n w (by omega) (by omega) (by rw [← hl']; exact h2) (yTM_fr hE w2 (by decide)) (mEn_fr hEn w2 (by decide)) w3 w4 b2 ((w2.1 3 (by decide)).trans h3) hd'
      refine ⟨y, y1, yf_trans w2 y2, y3, ?_⟩
      rcases y4 with ⟨c1, c2, c3⟩ | ⟨c1, c2⟩
      · refine Or.inl ⟨fun j b hj hb => ?_, c2, c3⟩
        by_cases zj : j = k
        · subst zj; rw [hak] at hb; cases hb; exact hyk
        · exact c1 j b (by omega) hb
      · exact Or.inr ⟨fun y => c1 fun j b hj hb => y j b (by omega) hb, c2⟩
    · obtain ⟨n, rfl⟩ : ∃ m, n = m + 1 := ⟨n - 1, by omega⟩
      have he : jb_Model_bodyRow_57 fu (n + 1) (nI (k + 1)) w = some ((), w) := by
        unfold jb_Model_bodyRow_57
        simp only [xs_let]
        split
        · rfl
        · rw [if_neg (by rw [b2]; decide)]
      exact ⟨w, he, w2, w4, Or.inr ⟨fun y => yv_bdN hF hc b1 (y k a (Nat.le_refl _) hak), b2⟩⟩
/-- the code of the module, by the reference -/
theorem mc_row (hfu : 8400 ≤ fu) (hX : yX B (yp_body D B) (S 10) l10) (hB : yB B len S v) (hE : yTM T v) (hEn : mEn T F tc mc G v) (h7 : v.1 7 = 0) :
    ∃ w, fm_Model_bodyRow fu v = some ((), w) ∧ mBf v w ∧ w.1 6 = 0 ∧ (((l10.length = F.length ∧ ∀ (j : Nat) a, l10[j]? = some a → yv_bd T F tc mc G z j a) ∧ w.1 7 = 0 ∧ ∀ (j : Nat) a, l10[j]? = some a → mBd D B T F tc mc G z j a w) ∨ (¬ (l10.length = F.length ∧ ∀ (j : Nat) a, l10[j]? = some a → yv_bd T F tc mc G z j a) ∧ w.1 7 = 1)) := by
  obtain ⟨b1, b2, b3, b4, b5, b6⟩ := hB
  have hS := b4 10 (by decide) (by decide)
  have hF64 := hEn.2.1
  unfold fm_Model_bodyRow
  have e10 : ¬ ((10 : Int32) < 0 ∨ 12 ≤ (10 : Int32).toNatClampNeg) := by decide
  rw [if_neg e10, show (10 : Int32).toNatClampNeg = 10 from rfl]
  -- from the number of bodies on
  have go : ∀ (y : xk_St) (m p e : Nat), m = l10.length → m < 2 ^ 32 → yf_fr [4, 5] [] [] [] v y → (yp_rep (yp_body D B len) m p = .inl (l10, e) ∧ (ym_st B len p y ∨ m = 0)) → ∃ w, jb_Model_bodyRow_36 fu (lN m) y = some ((), w) ∧ mBf v w ∧ w.1 6 = 0 ∧ (((l10.length = F.length ∧ ∀ (j : Nat) a, l10[j]? = some a → yv_bd T F tc mc G z j a) ∧ w.1 7 = 0 ∧ ∀ (j : Nat) a, l10[j]? = some a → mBd D B T F tc mc G z j a w) ∨ (¬ (l10.length = F.length ∧ ∀ (j : Nat) a, l10[j]? = some a → yv_bd T F tc mc G z j a) ∧ w.1 7 = 1)) := fun y m p e hm hm32 hvy hrep => by
    have y13 : y.1 13 = nI F.length := (hvy.1 13 (by decide)).trans hEn.1
    unfold jb_Model_bodyRow_36 jb_Model_bodyRow_52
    simp only [xs_let]
    rw [y13, nI_toL (by omega)]
    have ceq : lN m = lN F.length ↔ m = F.length := ⟨fun t => by
      have h1 := (pk_lLE (a := m) (b := F.length) (by omega) (by omega)).mp (by rw [t]; exact Int64.le_refl _)
      have h2 := (pk_lLE (a := F.length) (b := m) (by omega) (by omega)).mp (by rw [t]; exact Int64.le_refl _)
      omega, fun t => by rw [t]⟩
    have hfI : ∀ x, yf_fr [4, 5, 7] [] [] [] v (xs_I y 7 x) := fun x => yf_I (yf_mono hvy (by decide)) (by decide)
    by_cases zm : m = F.length
    · rw [if_pos (ceq.mpr zm), if_pos (Or.inl trivial)]
      have hll : l10.length = F.length := by omega
      rcases hrep.2 with hst | h0
      · obtain ⟨w, w1, w2, w3, w4⟩ := mc_57 (fu := fu) (T := T) (F := F) (G := G) (tc := tc) (mc := mc) (z := z) (D := D) (B := B) (len := len) (l10 := l10) hfu hll m 0 p e fu (xs_I y 7 0) (by omega) (by omega) (by rw [List.drop_zero]; exact hrep.1) (yTM_fr hE (hfI 0) (by decide)) (mEn_fr hEn (hfI 0) (by decide)) hst (((hfI 0).1 6 (by decide)).trans b6) rfl (((hfI 0).1 3 (by decide)).trans b2) (fun j a hj => by omega)
        refine ⟨w, w1, yf_trans (yf_mono (hfI 0) (by decide)) w2, w3, ?_⟩
        rcases w4 with ⟨c1, c2, c3⟩ | ⟨c1, c2⟩
        · exact Or.inl ⟨⟨hll, fun j a ha => c1 j a (Nat.zero_le _) ha⟩, c2, c3⟩
        · exact Or.inr ⟨fun y => c1 fun j a _ ha => y.2 j a ha, c2⟩
      · obtain ⟨f', hf'⟩ : ∃ m, fu = m + 1 := ⟨fu - 1, by omega⟩
        have hl0 : l10 = [] := List.length_eq_zero_iff.mp (by omega)
        have e1 : jb_Model_bodyRow_57 fu fu 0 (xs_I y 7 0) = some ((), xs_I y 7 0) := by
          rw [show jb_Model_bodyRow_57 fu fu = jb_Model_bodyRow_57 fu (f' + 1) by rw [← hf']]
          unfold jb_Model_bodyRow_57
          simp only [xs_let]
          have y13' : (xs_I y 7 0).1 13 = nI F.length := y13
          rw [y13', show F.length = 0 by omega, if_pos (by decide)]
        exact ⟨_, e1, yf_mono (hfI 0) (by decide), ((hfI 0).1 6 (by decide)).trans b6, Or.inl ⟨⟨hll, fun j a ha => by rw [hl0] at ha; simp at ha⟩, rfl, fun j a ha => by rw [hl0] at ha; simp at ha⟩⟩
    · rw [if_neg (fun y => zm (ceq.mp y)), if_pos (Or.inr trivial)]
      obtain ⟨f', hf'⟩ : ∃ m, fu = m + 1 := ⟨fu - 1, by omega⟩
      have e1 : jb_Model_bodyRow_57 fu fu 0 (xs_I y 7 1) = some ((), xs_I y 7 1) := by
        rw [show jb_Model_bodyRow_57 fu fu = jb_Model_bodyRow_57 fu (f' + 1) by rw [← hf']]
        unfold jb_Model_bodyRow_57
        simp only [xs_let]
        split
        · rfl
        · rw [if_neg (show ¬ (xs_I y 7 1).1 7 = 0 from fun t => absurd (show (1 : Int32) = 0 from t) (by decide))]
      exact ⟨_, e1, yf_mono (hfI 1) (by decide), ((hfI 1).1 6 (by decide)).trans b6, Or.inr ⟨fun t => zm (by omega), rfl⟩⟩
  cases hs : S 10 with
  | none =>
    rw [hs] at hX hS
    have hX : l10 = [] := hX
    have hS : v.2.2.1 2 10 = -1 := hS
    rw [hS, if_pos (show (-1 : Int32) < 0 by decide)]
    exact go v 0 0 0 (by rw [hX]; rfl) (by decide) yf_refl ⟨by rw [hX]; rfl, Or.inr rfl⟩
  | some x =>
    rw [hs] at hX hS
    obtain ⟨p, e⟩ := x
    obtain ⟨x1, x2, x3⟩ : p ≤ e ∧ e ≤ 8192 ∧ yp_row B e (yp_body D B e) p = .inl (l10, e) := hX
    have hS : v.2.2.1 2 10 = nI p := hS
    have hel : e ≤ len := b5 10 (p, e) hs
    have hr := yl_row (B := B) (it := yp_body D B) (p := p) hel (fun p => yl_body hel) _ x3
    obtain ⟨m, q, r1, r2⟩ := yp_thenI hr
    have hlen := yp_repl r2
    obtain ⟨hn32, hq1, hq2⟩ := yp_Nb r1
    simp only [xs_let]
    rw [hS, if_neg (show ¬ nI p < 0 from nI_pos (by omega)), if_neg (show ¬ ((10 : Int32) < 0 ∨ 12 ≤ 10) by decide)]
    have hst : ym_st B len p (xs_I (xs_I v 4 (nI p)) 5 ((xs_I v 4 (nI p)).1 3)) := ⟨b1, rfl, b2, by omega, b3⟩
    rw [mk_N (by omega) hst b6 r1, ys_seq]
    exact go _ m q e hlen.symm hn32 (yf_I (yf_I (yf_I yf_refl (by decide)) (by decide)) (by decide)) ⟨r2, Or.inl (ym_mv hst hq2)⟩
end
