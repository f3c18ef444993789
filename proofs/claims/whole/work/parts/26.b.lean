section
variable {α β γ δ : Type} {B : Nat → Int32} {u v w : xk_St} {L lim p q fu : Nat} {e : Int32}
theorem yp_opt_then {o : Option (List Bool)} {f : List Bool → (α × Nat) ⊕ Nat} {h : α → Nat → (β × Nat) ⊕ Nat} : yp_then (yp_opt o f) h = yp_opt o fun st => yp_then (f st) h := by
  cases o <;> rfl
theorem yp_code_s' {d : Nat} {s : Bool} {st : List Bool} : yp_code B lim (d + 1) (s :: st) p = yp_then (yp_then (yp_ins B lim p) fun i q => yp_opt (yn_next i.1 s st) fun st' => .inl ((i, st'), q)) fun a q => yp_then (yp_code B lim d a.2 q) fun l r => .inl ((p, a.1) :: l, r) := by
  rw [yp_code_s, yp_then_then]
  congr 1
  funext i q
  rw [yp_opt_then]
  rfl
theorem yo_lt {f g : Nat → Int32} {x : Nat × Option Nat} {r : List (Nat × Option Nat)} {d : Nat} (h : yo_ok f g d (x :: r)) : ∀ y, y ∈ r → yo_i y < x.1 := fun y hy => yo_below h.2.2.2.2.2 y hy
/-- where the open blocks behind an instruction come from -/
theorem yo_stepM {ol : List (Nat × Option Nat)} {k op : Nat} {y : Nat × Option Nat} (h : y ∈ yo_step ol k op) : y ∈ ol ∨ yo_i y = k := by
  unfold yo_step at h
  by_cases h1 : op = 11
  · rw [if_pos h1] at h
    exact Or.inl (List.mem_of_mem_tail h)
  · rw [if_neg h1] at h
    by_cases h2 : op = 5
    · rw [if_pos h2] at h
      cases ol with
      | nil => cases h
      | cons x r =>
        rcases List.mem_cons.mp h with rfl | h
        · exact Or.inr rfl
        · exact Or.inl (List.mem_cons_of_mem _ h)
    · rw [if_neg h2] at h
      by_cases h3 : op = 2 ∨ op = 3 ∨ op = 4
      · rw [if_pos h3] at h
        rcases List.mem_cons.mp h with rfl | h
        · exact Or.inr rfl
        · exact Or.inl h
      · rw [if_neg h3] at h
        exact Or.inl h
theorem yk_FR_trans {sz sz' : Nat} {ol ol' : List (Nat × Option Nat)} (hs : sz ≤ sz') (h1 : yk_FR sz ol u v) (h2 : yk_FR sz' ol' v w) (hm : ∀ y, y ∈ ol' → y ∈ ol ∨ sz ≤ yo_i y) : yk_FR sz ol u w := by
  refine ⟨fun j hj => ?_, yi_monoT h1.2.1 h2.2.1, yf_trans h1.2.2 h2.2.2⟩
  obtain ⟨a1, a2, a3, a4⟩ := h1.1 j hj
  obtain ⟨b1, b2, b3, b4⟩ := h2.1 j (by omega)
  refine ⟨b1.trans a1, b2.trans a2, b3.trans a3, fun hx => (b4 fun y hy => ?_).trans (a4 hx)⟩
  rcases hm y hy with z | z
  · exact hx y z
  · omega
theorem yk_FR_refl {sz ns : Nat} {ol : List (Nat × Option Nat)} (h : u.1 9 = nI ns) (hns : ns ≤ 8192) : yk_FR sz ol u u := ⟨fun _ _ => ⟨rfl, rfl, rfl, fun _ => rfl⟩, ⟨ns, ns, h, h, Nat.le_refl _, hns, fun _ _ => rfl⟩, yf_refl⟩
/-- the instructions of a body, read by the class -/
theorem hh_code (hfu : 20 ≤ fu) (hn : lim + 2 ≤ fu) {k20 : Int32 → Int32 → Int32 → xk_St → Option ((Unit ⊕ Nat) × xk_St)} {b1 b2 b3 : Int32} : ∀ (d : Nat) (ol : List (Nat × Option Nat)) (p n k sz ns : Nat) (u : xk_St), lim - p < d → d < n → k < p → sz ≤ p → ns ≤ p → yh_st B lim p u → u.1 8 = nI sz → u.1 9 = nI ns → yo_ok (u.2.2.1 7) (u.2.2.1 9) sz ol →
    yC p (jb_Reader_readCode_95 fu k20 n b1 b2 b3 (yo_up ol) (nI k) u) (yp_code B lim d (yo_st (u.2.2.1 7) ol) p) fun l q o => ∃ v, o = jb_Reader_readCode_123 fu k20 b1 b2 b3 v ∧ yh_st B lim q v ∧ yk_body v ol sz l ∧ yk_FR sz ol u v ∧ v.1 8 = nI (sz + l.length) ∧ yi_few v ∧ ∀ N0, yW N0 u → yW N0 v := by
  intro d
  induction d with
  | zero => intro ol p n k sz ns u h; omega
  | succ d ih =>
    intro ol p n k sz ns u h1 h2 hk hsz hns h h8 h9 hok
    obtain ⟨n, rfl⟩ : ∃ m, n = m + 1 := ⟨n - 1, by omega⟩
    have hp : p ≤ lim ∧ lim ≤ 8192 := h.2.2.2
    unfold jb_Reader_readCode_95
    simp only [xs_let]
    rw [if_neg (show ¬ (8192 : Int32) ≤ nI k from nI_ge (b := 8192) (by omega) (by omega))]
    cases ol with
    | nil =>
      rw [if_pos (show yo_up [] = -1 from rfl), show yo_st (u.2.2.1 7) [] = [] from rfl, yp_code_n]
      exact yC_ok (Nat.le_refl _) ⟨u, rfl, h, trivial, yk_FR_refl h9 (by omega), h8, ⟨ns, sz, p, h9, h8, h.2.1, hns, hsz, by omega⟩, fun _ h => h⟩
    | cons x r =>
      have hx : yo_i x < sz := hok.2.1
      rw [if_neg (show ¬ yo_up (x :: r) = -1 from fun z => by
        have hz : nI (yo_i x) = -1 := z
        have := nI_toInt (n := yo_i x) (by omega)
        rw [hz] at this
        have h3 : (-1 : Int) = (yo_i x : Int) := this
        omega)]
      have hst : yo_st (u.2.2.1 7) (x :: r) = (x.2.isNone && decide (u.2.2.1 7 x.1 = 4)) :: yo_st (u.2.2.1 7) r := rfl
      rw [hst, yp_code_s']
      refine yC_try (hh_step hfu hn h8 h9 hsz hns h hok hst) fun a q b v e1 e2 hv ha => ?_
      obtain ⟨a1, a2, a3, a4, a5, a6, ⟨ns', sz', p', c1, c2, c3, c4, c5, c6⟩, aW⟩ := ha
      obtain ⟨i, q0, d1, d2⟩ := yp_thenI e1
      have hq0 := yp_ins_eats _ _ _ d1
      have hqq : q0 = q ∧ i = a.1 := by
        cases hnx : yn_next i.1 (x.2.isNone && decide (u.2.2.1 7 x.1 = 4)) (yo_st (u.2.2.1 7) r) with
        | none => rw [hnx] at d2; cases d2
        | some st => rw [hnx] at d2; cases d2; exact ⟨rfl, rfl⟩
      obtain ⟨rfl, rfl⟩ := hqq
      have hq17 : p' = q0 := (nI_eq (by omega) (by have := hv.2.2.2; omega)).mp (c3.symm.trans hv.2.1)
      subst hq17
      rw [a1, a2, nI_1]
      refine yC_then (ih (yo_step (x :: r) sz a.1.1) p' n (k + 1) (sz + 1) ns' v (by omega) (by omega) (by omega) (by omega) c4 hv a6 c1 a3) fun l q' f1 f2 hj => ?_
      obtain ⟨w, g1, g2, g3, g4, g5, g6, gW⟩ := hj
      refine yC_ok (Nat.le_refl _) ⟨w, g1, g2, ⟨yk_keepE a4 (Nat.lt_succ_self _) ⟨g4.1, g4.2.1⟩ (fun z y s hy => ?_) (fun z y s hy => ?_), g3⟩, yk_FR_trans (Nat.le_succ _) a5 g4 (fun y hy => (yo_stepM hy).imp id (fun z => by omega)), ?_, g6, fun N0 h => gW N0 (aW N0 h)⟩
      · injection hy with hy1 hy2
        subst hy1; subst hy2
        refine ⟨by omega, fun y hy => ?_⟩
        have hy' : y ∈ r := by
          unfold yo_step at hy
          rw [if_pos z] at hy
          exact hy
        have := yo_lt hok y hy'
        have := hok.1
        omega
      · injection hy with hy1 hy2
        subst hy1; subst hy2
        have hx1 := hok.1
        refine ⟨by omega, fun y hy => ?_⟩
        have hy' : y = (x.1, some sz) ∨ y ∈ r := by
          unfold yo_step at hy
          rw [if_neg (fun y => absurd (z.symm.trans y) (by decide)), if_pos z] at hy
          exact List.mem_cons.mp hy
        rcases hy' with rfl | hy'
        · show ¬ x.1 = sz
          omega
        · have := yo_lt hok y hy'
          omega
      · rw [g5]
        show nI (sz + 1 + l.length) = nI (sz + (l.length + 1))
        rw [show sz + 1 + l.length = sz + (l.length + 1) by omega]
end
