section
variable {α β γ δ σ τ : Type} {u v w u0 : xk_St} {g : Nat → Nat} {T : List (Nat × List Nat × List Nat)} {n fu : Nat} {Q Q' : List sFr} {s : Option (List sFr)}
/-- value i of N that a way takes lies there -/
def sq_at (T : List (Nat × List Nat × List Nat)) (t : sFr) (N i c : Nat) : Prop := match t.2.2.2.2[N - 1 - i]? with
  | some x => yfit (yl_f T) x c
  | none => t.2.2.2.1 = true
/-- a way of 0x0e is as it must be -/
def sq_way (T : List (Nat × List Nat × List Nat)) (n : Nat) (Q : List sFr) (d : Nat) : Prop := ∃ f, Q[d]? = some f ∧ (sb_lab T f).length = n ∧ sq_there T Q (sb_lab T f)
theorem ml_57 {t f : sFr} {r : List sFr} {j : Nat} : ∀ (m k n : Nat) (v : xk_St), k + m = (sb_lab T f).length → m < n → yTM T v → mS T (t :: r) v → mF T v j f → v.1 7 = 0 → ∃ w, jb_Model_checkWay_57 fu n (nI (sb_lab T f).length) (nI j) (if (decide (¬ f.2.1 = 3)) then 1 else 0) (nI k) v = some ((), w) ∧ yf_fr [7] [] [] [] v w ∧ ((w.1 7 = 0 ∧ ∀ (i c : Nat), k ≤ i → (sb_lab T f)[i]? = some c → sq_at T t (sb_lab T f).length i c) ∨ (w.1 7 = 1 ∧ ¬ ∀ (i c : Nat), k ≤ i → (sb_lab T f)[i]? = some c → sq_at T t (sb_lab T f).length i c)) := by
  intro m
  induction m with
  | zero =>
    intro k n v hk hn hE hS hF h7
    obtain ⟨n, rfl⟩ : ∃ m, n = m + 1 := ⟨n - 1, by omega⟩
    unfold jb_Model_checkWay_57
    simp only [xs_let]
    rw [show (sb_lab T f).length = k by omega, if_pos (Int32.le_refl _)]
    refine ⟨v, rfl, yf_refl, Or.inl ⟨h7, fun i c hi hc => ?_⟩⟩
    have := yl_lt hc
    omega
  | succ m ih =>
    intro k n v hk hn hE hS hF h7
    obtain ⟨n, rfl⟩ : ∃ m, n = m + 1 := ⟨n - 1, by omega⟩
    have hprl := sb_prV (b := decide (¬ f.2.1 = 3)) hE hF.2.2.1 hF.2.2.2.1
    rw [← sb_labp] at hprl
    obtain ⟨hl16, hlv⟩ := hprl
    obtain ⟨c, hc⟩ := yl_get (l := sb_lab T f) (k := k) (by omega)
    have h64 := hE.2.1.1
    have hj := hF.2.2.2.2.2
    have hlen : (t :: r).length = r.length + 1 := List.length_cons
    have hsum : sq_h (t :: r) = t.2.2.2.2.length + sq_h r := rfl
    obtain ⟨h1, h2, h3, h4, h5, h6, h8⟩ := id hS
    obtain ⟨p1, p2⟩ := nI_place (h := sq_h (t :: r)) (n := (sb_lab T f).length) (k := k) hl16 (by omega) h4
    have h25 : v.2.2.1 25 r.length = nI (sq_h r) := h6.1.2.2.2.2.1
    have h26 : v.2.2.1 26 r.length = (if t.2.2.2.1 then 1 else 0) := h6.1.2.2.2.2.2
    have hfI : ∀ x, yf_fr [7] [] [] [] v (xs_I v 7 x) := fun x => yf_I yf_refl (by decide)
    -- the flag as it is set, and on
    have go : ∀ x : Int32, ((x = 0 ∧ sq_at T t (sb_lab T f).length k c) ∨ (x = 1 ∧ ¬ sq_at T t (sb_lab T f).length k c)) → ∃ w, jb_Model_checkWay_166 fu (jb_Model_checkWay_57 fu n) (nI (sb_lab T f).length) (nI j) (if (decide (¬ f.2.1 = 3)) then 1 else 0) (nI k) x v = some ((), w) ∧ yf_fr [7] [] [] [] v w ∧ ((w.1 7 = 0 ∧ ∀ (i c : Nat), k ≤ i → (sb_lab T f)[i]? = some c → sq_at T t (sb_lab T f).length i c) ∨ (w.1 7 = 1 ∧ ¬ ∀ (i c : Nat), k ≤ i → (sb_lab T f)[i]? = some c → sq_at T t (sb_lab T f).length i c)) := fun x hx => by
      unfold jb_Model_checkWay_166
      simp only [xs_let]
      rcases hx with ⟨rfl, ha⟩ | ⟨rfl, ha⟩
      · rw [if_pos (Or.inl rfl), nI_1]
        obtain ⟨w, e, hf, hw⟩ := ih (k + 1) n (xs_I v 7 0) (by omega) (by omega) (yTM_fr hE (hfI 0) (by decide)) (mS_fr hS (hfI 0) (by decide)) (mF_fr hF (hfI 0) (by decide)) rfl
        refine ⟨w, e, yf_trans (hfI 0) hf, ?_⟩
        rcases hw with ⟨w7, hw⟩ | ⟨w7, hw⟩
        · refine Or.inl ⟨w7, fun i x hi hx => ?_⟩
          by_cases zi : i = k
          · subst zi; rw [hc] at hx; cases hx; exact ha
          · exact hw i x (by omega) hx
        · exact Or.inr ⟨w7, fun y => hw fun i x hi => y i x (by omega)⟩
      · rw [if_pos (Or.inr rfl), nI_1]
        obtain ⟨n, rfl⟩ : ∃ m, n = m + 1 := ⟨n - 1, by omega⟩
        refine ⟨xs_I v 7 1, ?_, hfI 1, Or.inr ⟨rfl, fun y => ha (y k c (Nat.le_refl _) hc)⟩⟩
        unfold jb_Model_checkWay_57
        simp only [xs_let]
        split
        · rfl
        · rw [if_neg (show ¬ (xs_I v 7 1).1 7 = 0 from fun y => absurd (show (1 : Int32) = 0 from y) (by decide))]
    conv => enter [1, w, 1, 1]; unfold jb_Model_checkWay_57
    simp only [xs_let]
    rw [if_neg (show ¬ nI (sb_lab T f).length ≤ nI k from nI_ge (by omega) (by omega)), if_pos h7, h1, hlen, nI_pred, ix101 (by omega), nI_clamp (by omega), h3, h25]
    unfold jb_Model_checkWay_102
    by_cases z : (sb_lab T f).length - 1 - k < t.2.2.2.2.length
    · obtain ⟨d, hd⟩ := yl_get (l := t.2.2.2.2) z
      have hat : sq_at T t (sb_lab T f).length k c ↔ yfit (yl_f T) d c := by unfold sq_at; rw [hd]
      have hpl := p1 (by omega)
      have hget : (sq_f (t :: r))[sq_h (t :: r) + k - (sb_lab T f).length]? = some d := by
        show (sq_f r ++ t.2.2.2.2.reverse)[sq_h (t :: r) + k - (sb_lab T f).length]? = some d
        rw [List.getElem?_append_right (by rw [sq_fl]; omega), sq_fl, List.getElem?_reverse (by omega), ← hd]
        congr 1
        omega
      have hst := h5 _ d hget
      have hvd := sq_okF h8 _ d hget
      rw [hpl, if_neg (fun y => by have := (nI_ltI (by omega) (by omega)).mp y; omega), if_neg (show ¬ (1 : Int32) = 0 by decide), ix101 (by omega), ix101 (by omega), nI_clamp (by omega), nI_clamp (by omega), hst, hF.2.1, mb_type (b := decide (¬ f.2.1 = 3)) hE hF.2.2.1 hF.2.2.2.1 (by rw [← sb_labp]; exact hc), ys_seq]
      obtain ⟨m1, m2⟩ := mm_fits (T := T) (u := v) (t := d) (x := c) (g := yl_f T) h64 (yvs_t hvd) (hlv k c hc).1 hE.2.2.2 (yl_fle (yTM_ah hE))
      by_cases zf : yfit (yl_f T) d c
      · rw [m1 zf, ys_seq, if_neg (show ¬ (1 : Int32) = 0 by decide)]
        exact go 0 (Or.inl ⟨rfl, hat.mpr zf⟩)
      · rw [m2 zf, ys_seq, if_pos rfl]
        exact go 1 (Or.inr ⟨rfl, fun y => zf (hat.mp y)⟩)
    · have hat : sq_at T t (sb_lab T f).length k c ↔ t.2.2.2.1 = true := by unfold sq_at; rw [List.getElem?_eq_none (by omega)]
      have hfl : nI (sq_h (t :: r)) - nI (sb_lab T f).length + nI k < nI (sq_h r) := by
        by_cases y : (sb_lab T f).length ≤ sq_h (t :: r) + k
        · rw [p1 y]
          exact nI_lt (by omega) (by omega)
        · exact p2 y _ (by omega)
      rw [if_pos hfl, if_pos rfl, h1, hlen, nI_pred, ix101 (by omega), nI_clamp (by omega), h26]
      by_cases zd : t.2.2.2.1 = true
      · rw [if_pos zd, if_neg (show ¬ (1 : Int32) = 0 by decide)]
        exact go 0 (Or.inl ⟨rfl, hat.mpr zd⟩)
      · rw [if_neg zd, if_pos rfl]
        exact go 1 (Or.inr ⟨rfl, fun y => zd (hat.mp y)⟩)
/-- a way of 0x0e, by the reference -/
theorem ml_way {d n : Nat} (hfu : 200 ≤ fu) (h : mK T u0 s v) (hd : d < 2 ^ 32) (hn : n ≤ 16) : MC (fm_Model_checkWay fu (lN d) (nI n) v) fun _ w => mK T u0 (s.bind fun Q => xs_if (sq_way T n Q d) (some Q)) w ∧ yf_fr [7] [] [] [] v w := by
  have hfI : ∀ x, yf_fr [7] [] [] [] v (xs_I v 7 x) := fun x => yf_I yf_refl (by decide)
  unfold fm_Model_checkWay
  rcases ml_out h hd with ⟨j, f, e1, hF, hf⟩ | ⟨e1, hf⟩
  · have h6 := hF.2.2.2.2.2
    have hprl := sb_prV (b := decide (¬ f.2.1 = 3)) h.1 hF.2.2.1 hF.2.2.2.1
    rw [← sb_labp] at hprl
    rw [e1, ys_seq, if_pos (show (0 : Int32) ≤ nI j from nI_le (a := 0) (by omega) (by omega)), mb_leads hF, ys_seq]
    obtain ⟨m, rfl⟩ : ∃ m, fu = m + 1 := ⟨fu - 1, by omega⟩
    have no : (∀ Q, s = some Q → ¬ sq_way T n Q d) → MC (jb_Model_checkWay_46 (m + 1) (nI n) (nI j) (if (decide (¬ f.2.1 = 3)) then 1 else 0) v) fun _ w => mK T u0 (s.bind fun Q => xs_if (sq_way T n Q d) (some Q)) w ∧ yf_fr [7] [] [] [] v w := fun hno => by
      unfold jb_Model_checkWay_46 jb_Model_checkWay_51
      simp only [xs_let]
      rw [if_pos (Or.inr trivial)]
      have e : jb_Model_checkWay_57 (m + 1) (m + 1) (nI n) (nI j) (if (decide (¬ f.2.1 = 3)) then 1 else 0) 0 (xs_I v 7 1) = some ((), xs_I v 7 1) := by
        unfold jb_Model_checkWay_57
        simp only [xs_let]
        split
        · rfl
        · rw [if_neg (show ¬ (xs_I v 7 1).1 7 = 0 from fun y => absurd (show (1 : Int32) = 0 from y) (by decide))]
      rw [e]
      have es : (s.bind fun Q => xs_if (sq_way T n Q d) (some Q)) = none := by
        cases s with
        | none => rfl
        | some Q => exact xs_ifn (hno Q rfl)
      rw [es]
      exact MC_ok ⟨ml_no h, hfI 1⟩
    rcases mk_s h with ⟨Q, rfl, h7⟩ | ⟨rfl, h7⟩
    · rw [if_pos h7, ix101 (by omega), nI_clamp (by omega), hF.2.1, mb_count (b := decide (¬ f.2.1 = 3)) h.1 hF.2.2.1 hF.2.2.2.1, ys_seq, ← sb_labp]
      have hQd := hf Q rfl
      have ceq : nI (sb_lab T f).length = nI n ↔ (sb_lab T f).length = n := nI_eq (by have := hprl.1; omega) (by omega)
      by_cases zc : (sb_lab T f).length = n
      · rw [if_pos (ceq.mpr zc)]
        unfold jb_Model_checkWay_51
        simp only [xs_let]
        rw [if_pos (Or.inl trivial)]
        obtain ⟨hE, ⟨Q0, hS, hQ, hs⟩, hfr⟩ := id h
        have hQ0 : Q = Q0 := by
          rcases hs with ⟨e, -⟩ | ⟨e, -⟩
          · cases e; rfl
          · cases e
        subst hQ0
        cases Q with
        | nil => exact absurd rfl hQ
        | cons t r =>
          obtain ⟨w, e, hfw, hw⟩ := ml_57 (fu := m + 1) (t := t) (f := f) (r := r) (j := j) (sb_lab T f).length 0 (m + 1) (xs_I v 7 0) (by omega) (by have := hprl.1; omega) (yTM_fr hE (hfI 0) (by decide)) (mS_fr hS (hfI 0) (by decide)) (mF_fr hF (hfI 0) (by decide)) rfl
          rw [← zc]
          have e : jb_Model_checkWay_57 (m + 1) (m + 1) (nI (sb_lab T f).length) (nI j) (if (decide (¬ f.2.1 = 3)) then 1 else 0) 0 (xs_I v 7 0) = some ((), w) := e
          rw [e]
          have hfvw := yf_trans (hfI 0) hfw
          have hwy : sq_way T (sb_lab T f).length (t :: r) d ↔ ∀ (i c : Nat), 0 ≤ i → (sb_lab T f)[i]? = some c → sq_at T t (sb_lab T f).length i c := by
            constructor
            · rintro ⟨f', q1, q2, q3⟩ i c _ hc
              rw [hQd] at q1; cases q1
              exact q3 i c hc
            · intro q
              exact ⟨f, hQd, rfl, fun i c hc => q i c (Nat.zero_le _) hc⟩
          have hwE := yTM_fr hE hfvw (by decide)
          have hwS := mS_fr hS hfvw (by decide)
          have hwf := yf_trans hfr (yf_mono hfvw (by decide))
          refine MC_ok ⟨⟨hwE, ⟨t :: r, hwS, hQ, ?_⟩, hwf⟩, hfvw⟩
          rcases hw with ⟨w7, hw⟩ | ⟨w7, hw⟩
          · exact Or.inl ⟨xs_ifp (hwy.mpr hw), w7⟩
          · exact Or.inr ⟨xs_ifn (fun y => hw (hwy.mp y)), w7⟩
      · rw [if_neg (fun y => zc (ceq.mp y))]
        refine no fun Q' e => ?_
        cases e
        rintro ⟨f', q1, q2, -⟩
        rw [hQd] at q1; cases q1
        exact zc q2
    · rw [if_neg (by rw [h7]; decide)]
      exact no fun Q' e => by cases e
  · rw [e1, ys_seq, if_neg (show ¬ (0 : Int32) ≤ -1 by decide)]
    have es : (s.bind fun Q => xs_if (sq_way T n Q d) (some Q)) = none := by
      cases s with
      | none => rfl
      | some Q => exact xs_ifn (fun ⟨f, q1, _⟩ => by rw [hf Q rfl] at q1; cases q1)
    rw [es]
    exact MC_ok ⟨ml_no h, hfI 1⟩
end
