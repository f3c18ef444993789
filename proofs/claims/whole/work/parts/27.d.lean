section
variable {α β γ δ : Type} {B : Nat → Int32} {u v w : xk_St} {L lim p q fu D len : Nat} {e : Int32} {T : List (Nat × List Nat × List Nat)}
theorem nI_34 {t i : Nat} : (34 : Int32) * nI t + nI i = nI (34 * t + i) := by
  rw [← nI_add, show nI (34 * t) = 34 * nI t from by show Int32.ofNat _ = Int32.ofNat 34 * Int32.ofNat t; rw [Int32.ofNat_mul]]
theorem hh_member {t i x : Nat} {c : Nat × List Nat × List Nat} (ht : t < 64) (hi : i < 16) (h : yk_ty u t c) (hx : c.2.1[i]? = some x) : fm_Types_member (nI t) (nI i) u = some (nI (yv_h x), u) := by
  unfold fm_Types_member
  rw [nI_34, if_neg (nI_in (N := 2210) (by omega) (by decide)), nI_clamp (by omega), h.2.2.2.1 i x hi hx]
theorem hh_outcome {t i x : Nat} {c : Nat × List Nat × List Nat} (ht : t < 64) (hi : i < 16) (h : yk_ty u t c) (hx : c.2.2[i]? = some x) : fm_Types_outcome (nI t) (nI i) u = some (nI (yv_h x), u) := by
  unfold fm_Types_outcome
  have e0 : (34 : Int32) * nI t + 17 = nI (34 * t + 17) := nI_34 (i := 17)
  rw [e0, nI_add, if_neg (nI_in (N := 2210) (by omega) (by decide)), nI_clamp (by omega), h.2.2.2.2 i x hi hx]
/-- checkTypes: the parts of one type -/
theorem hh_ct86 {k : Nat} {c : Nat × List Nat × List Nat} {k2 : Int32 → xk_St → Option ((Unit ⊕ Nat) × xk_St)} (hfu : 20 ≤ fu) (hT : yTh T u) (hc : T[k]? = some c) (hm : c.2.2.length ≤ 16) :
    let N := if c.1 = 96 then c.2.2.length else 0
    ((∀ (i : Nat) x, i < N → c.2.2[i]? = some x → yv_in T (k + 1) x) → jb_Checker_checkTypes_86 fu k2 fu (nI k) 0 u = k2 (nI (k + 1)) u) ∧ ((∃ (i x : Nat), i < N ∧ c.2.2[i]? = some x ∧ ¬ yv_in T (k + 1) x) → jb_Checker_checkTypes_86 fu k2 fu (nI k) 0 u = some (.inr 0, u)) := by
  intro N
  obtain ⟨ty, tg⟩ := hT.2.2 k c hc
  have hk := yl_lt hc
  have h64 := hT.2.1
  have hN : N ≤ 16 := by show (if c.1 = 96 then c.2.2.length else 0) ≤ 16; split <;> omega
  have hN2 : N ≤ c.2.2.length := by show (if c.1 = 96 then c.2.2.length else 0) ≤ _; split <;> omega
  have h4 : u.2.2.1 4 k = nI N := by
    rw [ty.2.2.1]
    show nI _ = nI (if c.1 = 96 then c.2.2.length else 0)
    split
    · rw [yn_cs (by omega)]
    · rfl
  have hb : ∀ (i : Nat) x, i < N → c.2.2[i]? = some x → x < 150 := fun i x hi hx => by
    have h96 : c.1 = 96 := by
      rcases Classical.em (c.1 = 96) with z | z
      · exact z
      · have : N = 0 := if_neg z
        omega
    have := tg.2.2.1 h96 i x hx
    omega
  have := yb_all (N := N) (fun i => ∀ x, c.2.2[i]? = some x → yv_in T (k + 1) x) (fun n i => jb_Checker_checkTypes_86 fu k2 n (nI k) (nI i) u) (k2 (nI (k + 1)) u) (some (.inr 0, u)) (fun n => ?_) (fun n i hi => ?_) N 0 fu (by omega) (by omega)
  · refine ⟨fun h => this.1 fun j _ hj x hx => h j x hj hx, fun ⟨i, x, a, b, c⟩ => this.2 ⟨i, Nat.zero_le _, a, fun h => c (h x b)⟩⟩
  · show jb_Checker_checkTypes_86 fu k2 (n + 1) (nI k) (nI N) u = _
    unfold jb_Checker_checkTypes_86
    simp only [xs_let]
    rw [if_neg (nI_in (N := 65) (by omega) (by decide)), nI_clamp (by omega), h4, if_pos (Int32.le_refl _), nI_1]
  · obtain ⟨x, hx⟩ := yl_get (l := c.2.2) (k := i) (by omega)
    have hxb := hb i x hi hx
    obtain ⟨w1, w2⟩ := hh_within (k := k) hxb hk hT
    have hstep : jb_Checker_checkTypes_86 fu k2 (n + 1) (nI k) (nI i) u = xs_try (fm_Checker_needWithin (nI (yv_h x)) (nI k) u) fun _ u6 => jb_Checker_checkTypes_86 fu k2 n (nI k) (nI (i + 1)) u6 := by
      conv => lhs; unfold jb_Checker_checkTypes_86
      simp only [xs_let]
      rw [if_neg (nI_in (N := 65) (by omega) (by decide)), nI_clamp (by omega), h4, if_neg (nI_ge (by omega) (by omega)), hh_outcome (by omega) (by omega) ty hx, ys_seq, nI_1]
    refine ⟨fun h => ?_, fun h => ?_⟩
    · show jb_Checker_checkTypes_86 fu k2 (n + 1) (nI k) (nI i) u = _
      rw [hstep, w1 (h x hx), ys_tryl]
    · show jb_Checker_checkTypes_86 fu k2 (n + 1) (nI k) (nI i) u = _
      rw [hstep, w2 (fun z => h fun y hy => by rw [hx] at hy; cases hy; exact z), ys_tryr]
theorem hh_ct51 {k : Nat} {c : Nat × List Nat × List Nat} {k2 : Int32 → xk_St → Option ((Unit ⊕ Nat) × xk_St)} (hfu : 20 ≤ fu) (hT : yTh T u) (hc : T[k]? = some c) (hm : c.2.1.length ≤ 16) :
    ((∀ (i : Nat) x, c.2.1[i]? = some x → yv_in T (k + 1) x) → jb_Checker_checkTypes_51 fu k2 fu (nI k) 0 u = jb_Checker_checkTypes_86 fu k2 fu (nI k) 0 u) ∧ ((∃ (i x : Nat), c.2.1[i]? = some x ∧ ¬ yv_in T (k + 1) x) → jb_Checker_checkTypes_51 fu k2 fu (nI k) 0 u = some (.inr 0, u)) := by
  obtain ⟨ty, tg⟩ := hT.2.2 k c hc
  have hk := yl_lt hc
  have h64 := hT.2.1
  have h4 : u.2.2.1 3 k = nI c.2.1.length := by rw [ty.2.1, yn_cs (by omega)]
  have := yb_all (N := c.2.1.length) (fun i => ∀ x, c.2.1[i]? = some x → yv_in T (k + 1) x) (fun n i => jb_Checker_checkTypes_51 fu k2 n (nI k) (nI i) u) (jb_Checker_checkTypes_86 fu k2 fu (nI k) 0 u) (some (.inr 0, u)) (fun n => ?_) (fun n i hi => ?_) c.2.1.length 0 fu (by omega) (by omega)
  · refine ⟨fun h => this.1 fun j _ hj x hx => h j x hx, fun ⟨i, x, b, c⟩ => this.2 ⟨i, Nat.zero_le _, yl_lt b, fun h => c (h x b)⟩⟩
  · show jb_Checker_checkTypes_51 fu k2 (n + 1) (nI k) (nI c.2.1.length) u = _
    unfold jb_Checker_checkTypes_51
    simp only [xs_let]
    rw [if_neg (nI_in (N := 65) (by omega) (by decide)), nI_clamp (by omega), h4, if_pos (Int32.le_refl _)]
  · obtain ⟨x, hx⟩ := yl_get (l := c.2.1) (k := i) (by omega)
    have hxb := tg.2.1 i x hx
    obtain ⟨w1, w2⟩ := hh_within (x := x) (k := k) (by omega) hk hT
    have hstep : jb_Checker_checkTypes_51 fu k2 (n + 1) (nI k) (nI i) u = xs_try (fm_Checker_needWithin (nI (yv_h x)) (nI k) u) fun _ u6 => jb_Checker_checkTypes_51 fu k2 n (nI k) (nI (i + 1)) u6 := by
      conv => lhs; unfold jb_Checker_checkTypes_51
      simp only [xs_let]
      rw [if_neg (nI_in (N := 65) (by omega) (by decide)), nI_clamp (by omega), h4, if_neg (nI_ge (by omega) (by omega)), hh_member (by omega) (by omega) ty hx, ys_seq, nI_1]
    refine ⟨fun h => ?_, fun h => ?_⟩
    · show jb_Checker_checkTypes_51 fu k2 (n + 1) (nI k) (nI i) u = _
      rw [hstep, w1 (h x hx), ys_tryl]
    · show jb_Checker_checkTypes_51 fu k2 (n + 1) (nI k) (nI i) u = _
      rw [hstep, w2 (fun z => h fun y hy => by rw [hx] at hy; cases hy; exact z), ys_tryr]
/-- checkTypes: all types, then they are grouped -/
theorem hh_ct (hfu : 100 ≤ fu) (hT : yTh T u) : (yV1 T → fm_Checker_checkTypes fu u = xs_seq (fm_Types_group fu u) fun _ u1 => some (.inl (), u1)) ∧ (¬ yV1 T → fm_Checker_checkTypes fu u = some (.inr 0, u)) := by
  have h64 := hT.2.1
  have := yb_all (N := T.length) (fun k => ∀ c, T[k]? = some c → yv_ty T k c) (fun n k => jb_Checker_checkTypes_2 fu n (nI k) u) (xs_seq (fm_Types_group fu u) fun _ u1 => some (.inl (), u1)) (some (.inr 0, u)) (fun n => ?_) (fun n k hk => ?_) T.length 0 fu (by omega) (by omega)
  · refine ⟨fun h => this.1 fun k _ _ c hc => h.2 k c hc, fun h => this.2 ?_⟩
    refine Classical.byContradiction fun hno => h ⟨h64, fun k c hc => Classical.byContradiction fun hn => hno ⟨k, Nat.zero_le _, yl_lt hc, fun z => hn (z c hc)⟩⟩
  · show jb_Checker_checkTypes_2 fu (n + 1) (nI T.length) u = _
    unfold jb_Checker_checkTypes_2
    simp only [xs_let]
    rw [hT.1, if_pos (Int32.le_refl _)]
  · obtain ⟨c, hc⟩ := yl_get (l := T) (k := k) hk
    obtain ⟨ty, tg⟩ := hT.2.2 k c hc
    have n1 : fm_Checker_need 1 u = some (.inl (), u) := if_neg (by decide)
    have n0 : fm_Checker_need 0 u = some (.inr 0, u) := if_pos rfl
    have h3 : (16 : Int32) < u.2.2.1 3 k ↔ ¬ c.2.1.length ≤ 16 := by
      rw [ty.2.1, ← yi_nle]
      exact not_congr (yn_cl (k := 16) (by decide))
    have h4 : (16 : Int32) < u.2.2.1 4 k ↔ ¬ (c.1 = 96 → c.2.2.length ≤ 16) := by
      rw [ty.2.2.1, ← yi_nle]
      refine not_congr ?_
      by_cases z : c.1 = 96
      · rw [if_pos z]
        exact (yn_cl (k := 16) (by decide)).trans ⟨fun h _ => h, fun h => h z⟩
      · rw [if_neg z]
        exact ⟨fun _ h => absurd h z, fun _ => by decide⟩
    have hstep : jb_Checker_checkTypes_2 fu (n + 1) (nI k) u = if (16 : Int32) < u.2.2.1 3 k then some (.inr 0, u) else if (16 : Int32) < u.2.2.1 4 k then some (.inr 0, u) else jb_Checker_checkTypes_51 fu (jb_Checker_checkTypes_2 fu n) fu (nI k) 0 u := by
      conv => lhs; unfold jb_Checker_checkTypes_2
      unfold jb_Checker_checkTypes_45 jb_Checker_checkTypes_46
      simp only [xs_let]
      rw [hT.1, if_neg (nI_ge (by omega) (by omega)), if_neg (nI_in (N := 65) (by omega) (by decide)), nI_clamp (by omega), if_neg (show ¬ (nI k < 0 ∨ 65 ≤ k) from fun z => z.elim (nI_pos (by omega)) (by omega)), n0, n1, ys_tryl, ys_tryr]
    show (_ → jb_Checker_checkTypes_2 fu (n + 1) (nI k) u = _) ∧ (_ → jb_Checker_checkTypes_2 fu (n + 1) (nI k) u = _)
    rw [hstep]
    by_cases a1 : c.2.1.length ≤ 16
    · rw [if_neg (fun z => h3.mp z a1)]
      by_cases a2 : c.1 = 96 → c.2.2.length ≤ 16
      · rw [if_neg (fun z => h4.mp z a2)]
        have hm2 : c.2.2.length ≤ 16 := by
          by_cases z : c.1 = 96
          · exact a2 z
          · have := (tg.2.2.2.1 z).1
            omega
        obtain ⟨b1, b2⟩ := hh_ct51 (fu := fu) (k2 := jb_Checker_checkTypes_2 fu n) (by omega) hT hc a1
        obtain ⟨d1, d2⟩ := hh_ct86 (fu := fu) (k2 := jb_Checker_checkTypes_2 fu n) (by omega) hT hc hm2
        refine ⟨fun h => ?_, fun h => ?_⟩
        · obtain ⟨-, -, v3, v4⟩ := h c hc
          rw [b1 v3, d1 fun i x hi hx => ?_]
          have z : c.1 = 96 := Classical.byContradiction fun z => by rw [if_neg z] at hi; omega
          exact v4 z i x hx
        · by_cases e1 : ∀ (i : Nat) x, c.2.1[i]? = some x → yv_in T (k + 1) x
          · rw [b1 e1]
            refine d2 (Classical.byContradiction fun hno => h fun c' hc' => ?_)
            rw [hc] at hc'; cases hc'
            exact ⟨a1, a2, e1, fun z i x hx => Classical.byContradiction fun hn => hno ⟨i, x, by rw [if_pos z]; exact yl_lt hx, hx, hn⟩⟩
          · refine b2 (Classical.byContradiction fun hno => e1 fun i x hx => Classical.byContradiction fun hn => hno ⟨i, x, hx, hn⟩)
      · rw [if_pos (h4.mpr a2)]
        exact ⟨fun h => absurd (h c hc).2.1 a2, fun _ => rfl⟩
    · rw [if_pos (h3.mpr a1)]
      exact ⟨fun h => absurd (h c hc).1 a1, fun _ => rfl⟩
end
