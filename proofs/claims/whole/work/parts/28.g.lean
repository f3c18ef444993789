section
variable {α β γ δ σ τ : Type} {u v w : xk_St} {g : Nat → Nat} {T : List (Nat × List Nat × List Nat)} {n fu : Nat} {Q Q' : List sFr}
/-- what a way takes must lie there, and stays -/
def sq_there (T : List (Nat × List Nat × List Nat)) (Q : List sFr) (L : List Nat) : Prop := match Q with
  | [] => False
  | f :: _ => ∀ (i c : Nat), L[i]? = some c → match f.2.2.2.2[L.length - 1 - i]? with
    | some t => yfit (yl_f T) t c
    | none => f.2.2.2.1 = true
theorem nI_negd : ∀ d, d < 17 → 0 < d → ∀ x, x < 101 → - nI d < nI x := by decide +kernel
theorem nI_place {h n k : Nat} (hn : n ≤ 16) (hk : k < n) (hh : h ≤ 100) : (n ≤ h + k → nI h - nI n + nI k = nI (h + k - n)) ∧ (¬ n ≤ h + k → ∀ x, x < 101 → nI h - nI n + nI k < nI x) := by
  have e0 : nI h - nI n + nI k = nI (h + k) - nI n := by
    rw [← nI_add, Int32.sub_eq_add_neg, Int32.sub_eq_add_neg, Int32.add_assoc, Int32.add_assoc, Int32.add_comm (-nI n)]
  rw [e0]
  refine ⟨fun z => ?_, fun z x hx => ?_⟩
  · have := nI_subb (a := h + k - n) (b := n)
    rw [show h + k - n + n = h + k by omega] at this
    exact this
  · have e1 : nI (h + k) - nI n = - nI (n - (h + k)) := by
      have : nI n = nI (h + k) + nI (n - (h + k)) := by rw [nI_add]; congr 1; omega
      rw [this, Int32.sub_eq_add_neg, Int32.neg_add, Int32.sub_eq_add_neg, ← Int32.add_assoc, Int32.add_right_neg, Int32.zero_add]
    rw [e1]
    exact nI_negd _ (by omega) (by omega) x hx
theorem hc_there {f : sFr} (hfu : 200 ≤ fu) (he : yCe T u) (hf : sFi T f u) (h : sH T Q u) (hQ : ¬ Q = []) : (sq_there T Q (sb_lab T f) → fm_Checker_needThere fu (nI f.1.1) (nI (sb_lab T f).length) u = some (.inl (), u)) ∧ (¬ sq_there T Q (sb_lab T f) → fm_Checker_needThere fu (nI f.1.1) (nI (sb_lab T f).length) u = some (.inr 0, u)) := by
  have n1 : fm_Checker_need 1 u = some (.inl (), u) := if_neg (by decide)
  have n0 : fm_Checker_need 0 u = some (.inr 0, u) := if_pos rfl
  obtain ⟨h1, h2, h3, h4, h5, h6, h7, h8⟩ := h
  cases Q with
  | nil => exact absurd rfl hQ
  | cons t r =>
    have hl := sb_labV he hf
    have hlen : (t :: r).length = r.length + 1 := List.length_cons
    have hsum : sq_h (t :: r) = t.2.2.2.2.length + sq_h r := rfl
    unfold fm_Checker_needThere
    have loop := yb_all (N := (sb_lab T f).length) (fun i => ∀ c, (sb_lab T f)[i]? = some c → match t.2.2.2.2[(sb_lab T f).length - 1 - i]? with
      | some t => yfit (yl_f T) t c
      | none => t.2.2.2.1 = true) (fun n i => jb_Checker_needThere_2 fu n (nI f.1.1) (nI (sb_lab T f).length) (nI i) u) (some (.inl (), u)) (some (.inr 0, u)) (fun n => ?_) (fun n i hi => ?_) (sb_lab T f).length 0 fu (by omega) (by omega)
    · exact ⟨fun h => loop.1 fun i _ _ c hc => h i c hc, fun h => loop.2 (Classical.byContradiction fun hno => h fun i c hc => Classical.byContradiction fun hn => hno ⟨i, Nat.zero_le _, yl_lt hc, fun y => hn (y c hc)⟩)⟩
    · show jb_Checker_needThere_2 fu (n + 1) (nI f.1.1) (nI (sb_lab T f).length) (nI (sb_lab T f).length) u = _
      unfold jb_Checker_needThere_2
      simp only [xs_let]
      rw [if_pos (Int32.le_refl _)]
    · obtain ⟨c, hc⟩ := yl_get (l := sb_lab T f) (k := i) hi
      obtain ⟨p1, p2⟩ := nI_place (h := sq_h (t :: r)) (n := (sb_lab T f).length) (k := i) hl.1 hi h4
      have h60 : ∀ s : Int32, (s = 0 ∨ s = 1) → jb_Checker_needThere_60 fu (jb_Checker_needThere_2 fu n) (nI f.1.1) (nI (sb_lab T f).length) (nI i) s u = if s = 0 then some (.inr 0, u) else jb_Checker_needThere_2 fu n (nI f.1.1) (nI (sb_lab T f).length) (nI (i + 1)) u := fun s hs => by
        unfold jb_Checker_needThere_60
        simp only [xs_let]
        rw [hh_needI hs, nI_1]
      have h20 : u.1 20 = nI (sq_h r) := h5
      have hP : (∀ d, (sb_lab T f)[i]? = some d → match t.2.2.2.2[(sb_lab T f).length - 1 - i]? with
        | some t => yfit (yl_f T) t d
        | none => t.2.2.2.1 = true) ↔ match t.2.2.2.2[(sb_lab T f).length - 1 - i]? with
        | some t => yfit (yl_f T) t c
        | none => t.2.2.2.1 = true := ⟨fun h => h c hc, fun h d hd => by rw [hc] at hd; cases hd; exact h⟩
      show ((∀ d, (sb_lab T f)[i]? = some d → match t.2.2.2.2[(sb_lab T f).length - 1 - i]? with
        | some t => yfit (yl_f T) t d
        | none => t.2.2.2.1 = true) → jb_Checker_needThere_2 fu (n + 1) (nI f.1.1) (nI (sb_lab T f).length) (nI i) u = _) ∧ (¬ (∀ d, (sb_lab T f)[i]? = some d → match t.2.2.2.2[(sb_lab T f).length - 1 - i]? with
        | some t => yfit (yl_f T) t d
        | none => t.2.2.2.1 = true) → jb_Checker_needThere_2 fu (n + 1) (nI f.1.1) (nI (sb_lab T f).length) (nI i) u = _)
      rw [hP]
      by_cases z : (sb_lab T f).length - 1 - i < t.2.2.2.2.length
      · -- the value lies there
        obtain ⟨d, hd⟩ := yl_get (l := t.2.2.2.2) z
        rw [hd]
        have hpl := p1 (by omega)
        have hget : (sq_f (t :: r))[sq_h (t :: r) + i - (sb_lab T f).length]? = some d := by
          show (sq_f r ++ t.2.2.2.2.reverse)[sq_h (t :: r) + i - (sb_lab T f).length]? = some d
          rw [List.getElem?_append_right (by rw [sq_fl]; omega), sq_fl, List.getElem?_reverse (by omega), ← hd]
          congr 1
          omega
        have hst := h6 _ d hget
        have hvd := sq_okF h8 _ d hget
        have hstp : jb_Checker_needThere_2 fu (n + 1) (nI f.1.1) (nI (sb_lab T f).length) (nI i) u = xs_seq (fm_Types_fits (nI (yu d)) (nI (yu c)) u) fun a6 u7 => jb_Checker_needThere_60 fu (jb_Checker_needThere_2 fu n) (nI f.1.1) (nI (sb_lab T f).length) (nI i) a6 u7 := by
          conv => lhs; unfold jb_Checker_needThere_2
          simp only [xs_let]
          rw [if_neg (nI_ge hi (by omega)), h3, hpl, h20, if_neg (fun y => by have := (nI_ltI (by omega) (by omega)).mp y; omega), if_neg (nI_in (N := 100) (by omega) (by decide)), nI_clamp (by omega), hst, hb_way he hf.1 hf.2.1 hf.2.2.1 hc, ys_seq]
        rw [hstp]
        obtain ⟨m1, m2⟩ := hh_fits (T := T) (u := u) (t := d) (x := c) (g := yl_f T) he.1.2.1 (yvs_t hvd) (hl.2 i c hc).1 he.2.2 (yl_fle (yV_ah he.1 he.2.1))
        show (yfit (yl_f T) d c → _) ∧ (¬ yfit (yl_f T) d c → _)
        by_cases zf : yfit (yl_f T) d c
        · rw [m1 zf, ys_seq, h60 1 (Or.inr rfl), if_neg (show ¬ (1 : Int32) = 0 by decide)]
          exact ⟨fun _ => rfl, fun h => absurd zf h⟩
        · rw [m2 zf, ys_seq, h60 0 (Or.inl rfl), if_pos rfl]
          exact ⟨fun h => absurd h zf, fun _ => rfl⟩
      · -- it doesn't
        rw [List.getElem?_eq_none (by omega)]
        have hlost := h7.1.2.1
        have hfl : nI (sq_h (t :: r)) - nI (sb_lab T f).length + nI i < nI (sq_h r) := by
          by_cases y : (sb_lab T f).length ≤ sq_h (t :: r) + i
          · rw [p1 y]
            exact nI_lt (by omega) (by omega)
          · exact p2 y _ (by omega)
        have hd01 : (if t.2.2.2.1 = true then (1 : Int32) else 0) = 0 ∨ (if t.2.2.2.1 = true then (1 : Int32) else 0) = 1 := by split <;> simp
        have hstp : jb_Checker_needThere_2 fu (n + 1) (nI f.1.1) (nI (sb_lab T f).length) (nI i) u = if (if t.2.2.2.1 = true then (1 : Int32) else 0) = 0 then some (.inr 0, u) else jb_Checker_needThere_2 fu n (nI f.1.1) (nI (sb_lab T f).length) (nI (i + 1)) u := by
          conv => lhs; unfold jb_Checker_needThere_2
          simp only [xs_let]
          rw [if_neg (nI_ge hi (by omega)), h3, h20, if_pos hfl, h1, hlen, nI_pred, if_neg (nI_in (N := 100) (by omega) (by decide)), nI_clamp (by omega), hlost, h60 _ hd01]
        rw [hstp]
        show (t.2.2.2.1 = true → _) ∧ (¬ t.2.2.2.1 = true → _)
        by_cases zd : t.2.2.2.1 = true
        · rw [if_pos zd, if_neg (show ¬ (1 : Int32) = 0 by decide)]
          exact ⟨fun _ => rfl, fun h => absurd zd h⟩
        · rw [if_neg zd, if_pos rfl]
          exact ⟨fun h => absurd h zd, fun _ => rfl⟩
/-- ways of 0x0e: each must lead to an open block that takes n values, which lie there -/
noncomputable def sq_ways (T : List (Nat × List Nat × List Nat)) (n : Nat) (Q : List sFr) : List Nat → Option Unit
  | [] => some ()
  | d :: ds => Q[d]?.bind fun f => xs_if ((sb_lab T f).length = n ∧ sq_there T Q (sb_lab T f)) (sq_ways T n Q ds)
noncomputable def sq_table (T : List (Nat × List Nat × List Nat)) (ds : List Nat) (last : Nat) (Q : List sFr) : Option (List sFr) := (sq_take (yl_f T) 1 Q).bind fun Q1 => Q1[last]?.bind fun f => (sq_ways T (sb_lab T f).length Q1 (ds ++ [last])).bind fun _ => some (sq_lose Q1)
/-- a branch notes its block -/
theorem hc_branch {k d : Nat} (h : sH T Q u) (hk : k < 8192) (h8 : u.2.2.1 8 k = nI (yn_c d)) : HC (fm_Checker_branch (nI k) u) Q[d]? (HJ fun f b v => b = nI f.1.1 ∧ v = xs_A u 9 k (nI f.1.1) ∧ sFi T f v ∧ sH T Q v) := by
  unfold fm_Checker_branch
  simp only [xs_let]
  rw [ix8192 hk, nI_clamp (by omega), h8]
  have h2 := hc_blockAt (d := d) h
  rcases h2 with ⟨f, e1, b, v, e2, rfl, rfl, e3⟩ | ⟨e1, v, e2⟩
  · rw [e2, e1, ys_tryl, if_neg (show ¬ (nI k < 0 ∨ 8192 ≤ k) from fun y => y.elim (nI_pos (by omega)) (by omega))]
    exact HC_ok ⟨_, _, rfl, rfl, rfl, sFi_fr e3 (yf_A (I := []) (J := []) (A := [9]) (B := []) yf_refl (by decide)) (by decide), h⟩
  · rw [e2, e1, ys_tryr]
    exact HC_no
/-- 0x0e, by the class: s is where its ways lie -/
theorem hc_table {s : Nat} {ds : List Nat} {last : Nat} (hfu : 8400 ≤ fu) (he : yCe T u) (h : sH T Q u) (hQ : ¬ Q = []) (hs : s + ds.length < 8192) (hn : ∀ (i : Nat) c, (ds ++ [last])[i]? = some c → u.2.2.1 11 (s + i) = nI (yn_c c)) :
    HC (fm_Checker_checkWays fu (nI s) (nI ds.length) u) (sq_table T ds last Q) (HJ fun Q' _ v => sH T Q' v ∧ yf_fr [19] [] [11, 33, 35] [] u v ∧ (∀ i, i < s ∨ s + ds.length < i → v.2.2.1 11 i = u.2.2.1 11 i) ∧ ∃ Q1, sq_take (yl_f T) 1 Q = some Q1 ∧ ∀ (i : Nat) c, (ds ++ [last])[i]? = some c → ∃ f, Q1[c]? = some f ∧ v.2.2.1 11 (s + i) = nI f.1.1) := by
  unfold fm_Checker_checkWays sq_table
  have y1 : nI (yu 1) = (1 : Int32) := rfl
  have hw1 : yvw T.length 1 := ⟨by decide, Or.inl (by decide)⟩
  have ht := hc_take (x := 1) he h hQ hw1
  rw [y1] at ht
  refine HC_try ht fun Q1 b v e1 hI => ?_
  obtain ⟨j1, j2⟩ := hI
  have hQ1 : ¬ Q1 = [] := by
    intro z
    have := sH_ne h j2 j1
    rw [z] at this
    exact hQ (List.length_eq_zero_iff.mp this.symm)
  have hev := yCe_fr he j2 (by decide)
  have hl : (ds ++ [last])[ds.length]? = some last := by rw [List.getElem?_append_right (Nat.le_refl _), Nat.sub_self]; rfl
  have hlen : (ds ++ [last]).length = ds.length + 1 := by simp
  have hv11 : v.2.2.1 11 = u.2.2.1 11 := j2.2.2.1 11 (by decide)
  rw [nI_add, if_neg (nI_in (N := 8192) hs (by decide)), nI_clamp (by omega), hv11, hn _ last hl]
  refine HC_try (hc_blockAt j1) fun f b2 w e2 hI2 => ?_
  obtain ⟨rfl, rfl, hfi⟩ := hI2
  rw [hc_wc hfi, ys_seq]
  -- the loop
  have hfl := sb_labV hev hfi
  have loop : ∀ (m k n : Nat) (x : xk_St), k + m = ds.length + 1 → m < n → sH T Q1 x → yf_fr [19] [] [11, 33] [] u x → (∀ i, i < s ∨ s + ds.length < i → x.2.2.1 11 i = u.2.2.1 11 i) → (∀ (i : Nat) c, k ≤ i → (ds ++ [last])[i]? = some c → x.2.2.1 11 (s + i) = nI (yn_c c)) → (∀ (i : Nat) c, i < k → (ds ++ [last])[i]? = some c → ∃ f, Q1[c]? = some f ∧ x.2.2.1 11 (s + i) = nI f.1.1) →
      HC (jb_Checker_checkWays_28 fu n (nI s) (nI ds.length) (nI (sb_lab T f).length) (nI (s + k)) x) ((sq_ways T (sb_lab T f).length Q1 ((ds ++ [last]).drop k)).bind fun _ => some (sq_lose Q1)) (HJ fun Q' _ v => sH T Q' v ∧ yf_fr [19] [] [11, 33, 35] [] u v ∧ (∀ i, i < s ∨ s + ds.length < i → v.2.2.1 11 i = u.2.2.1 11 i) ∧ ∃ Q1, sq_take (yl_f T) 1 Q = some Q1 ∧ ∀ (i : Nat) c, (ds ++ [last])[i]? = some c → ∃ f, Q1[c]? = some f ∧ v.2.2.1 11 (s + i) = nI f.1.1) := by
    intro m
    induction m with
    | zero =>
      intro k n x hk hn' hx hxf hxo hxa hxb
      obtain ⟨n, rfl⟩ : ∃ m, n = m + 1 := ⟨n - 1, by omega⟩
      obtain rfl : k = ds.length + 1 := by omega
      rw [List.drop_eq_nil_of_le (by omega)]
      unfold jb_Checker_checkWays_28
      simp only [xs_let]
      rw [nI_add, if_pos (nI_lt (by omega) (by omega))]
      obtain ⟨y, f1, f2, f3⟩ := hc_lose hx hQ1
      rw [f1, ys_seq]
      refine HC_ok ⟨(), y, rfl, f2, yf_trans (yf_mono hxf (by decide)) (yf_mono f3 (by decide)), fun i hi => by rw [f3.2.2.1 11 (by decide)]; exact hxo i hi, Q1, e1, fun i c hc => ?_⟩
      rw [f3.2.2.1 11 (by decide)]
      exact hxb i c (by have := yl_lt hc; omega) hc
    | succ m ih =>
      intro k n x hk hn' hx hxf hxo hxa hxb
      obtain ⟨n, rfl⟩ : ∃ m, n = m + 1 := ⟨n - 1, by omega⟩
      obtain ⟨c, hc⟩ := yl_get (l := ds ++ [last]) (k := k) (by omega)
      have hdr : (ds ++ [last]).drop k = c :: (ds ++ [last]).drop (k + 1) := by
        rw [List.drop_eq_getElem_cons (by omega)]
        congr 1
        have := List.getElem?_eq_getElem (l := ds ++ [last]) (i := k) (by omega)
        rw [hc] at this
        exact (Option.some.inj this).symm
      rw [hdr]
      have hex : yCe T x := yCe_fr he hxf (by decide)
      have hstp : jb_Checker_checkWays_28 fu (n + 1) (nI s) (nI ds.length) (nI (sb_lab T f).length) (nI (s + k)) x = xs_try (fm_Checker_blockAt (nI (yn_c c)) x) fun a7 u8 => xs_seq (fm_Checker_wayCount a7 (xs_A u8 11 (s + k) a7)) fun a10 u11 => if a10 = nI (sb_lab T f).length then (jb_Checker_checkWays_79 fu (jb_Checker_checkWays_28 fu n) (nI s) (nI ds.length) (nI (sb_lab T f).length) (nI (s + k)) a7 (1 : Int32) u11) else (jb_Checker_checkWays_79 fu (jb_Checker_checkWays_28 fu n) (nI s) (nI ds.length) (nI (sb_lab T f).length) (nI (s + k)) a7 (0 : Int32) u11) := by
        conv => lhs; unfold jb_Checker_checkWays_28
        simp only [xs_let]
        rw [nI_add, if_neg (fun y => by have := (nI_ltI (by omega) (by omega)).mp y; omega), ix8192 (by omega), nI_clamp (by omega), hxa k c (Nat.le_refl _) hc]
        congr 1
        funext a7 u8
        rw [if_neg (show ¬ (nI (s + k) < 0 ∨ 8192 ≤ s + k) from fun y => y.elim (nI_pos (by omega)) (by omega))]
      rw [hstp]
      show HC _ ((Q1[c]?.bind fun f2 => xs_if ((sb_lab T f2).length = (sb_lab T f).length ∧ sq_there T Q1 (sb_lab T f2)) (sq_ways T (sb_lab T f).length Q1 ((ds ++ [last]).drop (k + 1)))).bind fun _ => some (sq_lose Q1)) _
      rw [Option.bind_assoc]
      refine HC_try (hc_blockAt hx) fun f2 b2 y e3 hI3 => ?_
      obtain ⟨rfl, rfl, hf2⟩ := hI3
      have hfrA : yf_fr [] [] [11] [] y (xs_A y 11 (s + k) (nI f2.1.1)) := yf_A yf_refl (by decide)
      have hf2x : sFi T f2 (xs_A y 11 (s + k) (nI f2.1.1)) := sFi_fr hf2 hfrA (by decide)
      have hxx : sH T Q1 (xs_A y 11 (s + k) (nI f2.1.1)) := hx
      have hexx : yCe T (xs_A y 11 (s + k) (nI f2.1.1)) := hex
      rw [hc_wc hf2x, ys_seq]
      have hl2 := sb_labV hex hf2
      have hcmp : nI (sb_lab T f2).length = nI (sb_lab T f).length ↔ (sb_lab T f2).length = (sb_lab T f).length := nI_eq (by omega) (by omega)
      unfold jb_Checker_checkWays_79
      simp only [xs_let]
      by_cases z : (sb_lab T f2).length = (sb_lab T f).length
      · rw [if_pos (hcmp.mpr z), hh_needI (Or.inr rfl), if_neg (show ¬ (1 : Int32) = 0 by decide)]
        obtain ⟨t1, t2⟩ := hc_there (fu := fu) (by omega) hexx hf2x hxx hQ1
        rw [z] at t1 t2
        by_cases zt : sq_there T Q1 (sb_lab T f2)
        · rw [t1 zt, ys_tryl, xs_ifp ⟨z, zt⟩, nI_1, Nat.add_assoc]
          refine ih (k + 1) n _ (by omega) (by omega) hxx (yf_A hxf (by decide)) (fun i hi => ?_) (fun i d hi hd => ?_) (fun i d hi hd => ?_)
          · show upd (y.2.2.1 11) (s + k) (nI f2.1.1) i = _
            rw [ya_j (by omega)]; exact hxo i hi
          · show upd (y.2.2.1 11) (s + k) (nI f2.1.1) (s + i) = _
            rw [ya_j (by omega)]; exact hxa i d (by omega) hd
          · by_cases zi : i = k
            · subst zi
              rw [hc] at hd; cases hd
              exact ⟨f2, e3, ya_t⟩
            · obtain ⟨f3, g1, g2⟩ := hxb i d (by omega) hd
              refine ⟨f3, g1, ?_⟩
              show upd (y.2.2.1 11) (s + k) (nI f2.1.1) (s + i) = _
              rw [ya_j (by omega)]; exact g2
        · rw [t2 zt, ys_tryr, xs_ifn (fun y => zt y.2)]
          exact HC_no
      · rw [if_neg (fun y => z (hcmp.mp y)), hh_needI (Or.inl rfl), if_pos rfl, xs_ifn (fun y => z y.1)]
        exact HC_no
  have := loop (ds.length + 1) 0 fu w (by omega) (by omega) j1 (yf_mono j2 (by decide)) (fun i _ => by rw [hv11]) (fun i c _ hc => by rw [hv11]; exact hn i c hc) (fun i c hi => by omega)
  rw [List.drop_zero, Nat.add_zero] at this
  exact this
end
