section
variable {α β γ δ σ τ : Type} {B : Nat → Int32} {u v w x u0 : xk_St} {T : List (Nat × List Nat × List Nat)} {F : List Nat} {G : List (Nat × Nat × Nat × Int64)} {L : List Nat} {n fu tc mc lim p q len f D k : Nat} {Q Q' : List sFr} {h : Nat → Nat}
/-- all instructions of a body could be read -/
theorem yp_codeG : ∀ {l : List (Nat × sIn)} {d p q : Nat} {st : List Bool}, yp_code B lim d st p = .inl (l, q) → ∀ (j : Nat) y, l[j]? = some y → yg_ins y.2 := by
  intro l
  induction l with
  | nil => intro d p q st _ j y hy; simp at hy
  | cons x l ih =>
    intro d p q st hc j y hy
    cases d with
    | zero => rw [yp_code_0] at hc; cases hc
    | succ d =>
      cases st with
      | nil => rw [yp_code_n] at hc; cases hc
      | cons b st =>
        rw [yp_code_s] at hc
        obtain ⟨i, q1, h1, hc⟩ := yp_thenI hc
        cases hnx : yn_next i.1 b st with
        | none => rw [hnx] at hc; cases hc
        | some st' =>
          rw [hnx] at hc
          obtain ⟨l', q2, h2, hc⟩ := yp_thenI (show yp_then (yp_code B lim d st' q1) _ = _ from hc)
          cases hc
          cases j with
          | zero => cases hy; exact yp_insG h1
          | succ j => exact ih h2 j y hy
/-- the entry of instruction j -/
theorem yk_bodyG : ∀ {l : List (Nat × sIn)} {ol : List (Nat × Option Nat)} {k : Nat}, yk_body u ol k l → ∀ (j : Nat) y, l[j]? = some y → ∃ ol', yk_ent u ol' (k + j) y.2 := by
  intro l
  induction l with
  | nil => intro ol k _ j y hy; simp at hy
  | cons x l ih =>
    intro ol k hb j y hy
    cases j with
    | zero => cases hy; exact ⟨ol, hb.1⟩
    | succ j =>
      obtain ⟨ol', h1⟩ := ih hb.2 j y hy
      exact ⟨ol', by rw [show k + (j + 1) = k + 1 + j by omega]; exact h1⟩
theorem yg_op6 : ∀ o, o < 287 → ¬ xt_S o = 45 → ¬ xt_S o = 33 → ¬ o = 6 := by
  intro o h1 h2 h3 h4
  subst h4
  have : xt_S 6 = 45 ∨ xt_S 6 = 33 := by decide +kernel
  rcases this with y | y
  · exact h2 y
  · exact h3 y
/-- what an instruction's entry has as its operation -/
theorem yk_op {ol : List (Nat × Option Nat)} {i : sIn} (hi : yg_ins i) (he : yk_ent u ol k i) : ¬ u.2.2.1 7 k = 6 ∧ (u.2.2.1 7 k = 14 → i.1 = 14) := by
  have a1 := he.1
  have h287 := hi.1
  have h6 := yg_op6 i.1 hi.1 hi.2.1 hi.2.2.1
  by_cases z : i.1 = 11
  · rw [if_pos z] at a1
    by_cases zt : ol.tail = []
    · rw [if_pos zt] at a1
      rw [a1]
      exact ⟨by decide, fun y => absurd y (by decide)⟩
    · rw [if_neg zt] at a1
      rw [a1]
      exact ⟨by decide, fun y => absurd y (by decide)⟩
  · rw [if_neg z] at a1
    rw [a1]
    exact ⟨fun y => h6 ((nI_eq (b := 6) (by omega) (by decide)).mp y), fun y => (nI_eq (b := 14) (by omega) (by decide)).mp y⟩
/-- a body as it was read: where it begins -/
def sRd (D : Nat) (B : Nat → Int32) (u : xk_St) (f sz : Nat) (a : sBo) : Prop := u.2.2.1 13 f = nI sz ∧ u.2.2.1 7 sz = 6 ∧ (∀ (i : Nat) x, a.2.1[i]? = some x → u.2.2.1 7 (sz + 1 + i) = 8 ∧ u.2.2.1 8 (sz + 1 + i) = nI (yn_c x.1) ∧ u.2.2.2 2 (sz + 1 + i) = lN (yv_h x.2)) ∧ yk_body u [(sz, none)] (sz + 1 + a.2.1.length) a.2.2 ∧ (∃ m, u.1 8 = nI m ∧ sz + 1 + a.2.1.length + a.2.2.length ≤ m ∧ m ≤ 8192) ∧ (∃ r2 q lim, yp_code B lim D [false] r2 = .inl (a.2.2, q)) ∧ ∀ (i : Nat) x, a.2.1[i]? = some x → 0 < x.2 ∧ x.2 ≤ 149 ∧ (x.2 = 1 ∨ x.2 = 2 ∨ 16 ≤ x.2)
abbrev sEnd (sz : Nat) (a : sBo) : Nat := sz + 1 + a.2.1.length + a.2.2.length
/-- entries of a body: the beginning, locals, instructions -/
theorem sRd_in {sz : Nat} {a : sBo} (h : sRd D B u f sz a) {j : Nat} (h1 : sz ≤ j) (h2 : j < sEnd sz a) : j = sz ∨ (u.2.2.1 7 j = 8) ∨ ∃ i y ol, j = sz + 1 + a.2.1.length + i ∧ a.2.2[i]? = some y ∧ yg_ins y.2 ∧ yk_ent u ol j y.2 := by
  obtain ⟨a1, a2, a3, a4, a5, ⟨r2, q, lim, a6⟩, a7⟩ := h
  have h2 : j < sz + 1 + a.2.1.length + a.2.2.length := h2
  by_cases z : j = sz
  · exact Or.inl z
  · by_cases z2 : j < sz + 1 + a.2.1.length
    · obtain ⟨c, hc⟩ := yl_get (l := a.2.1) (k := j - sz - 1) (by omega)
      have := (a3 _ c hc).1
      rw [show sz + 1 + (j - sz - 1) = j by omega] at this
      exact Or.inr (Or.inl this)
    · obtain ⟨y, hy⟩ := yl_get (l := a.2.2) (k := j - (sz + 1 + a.2.1.length)) (by omega)
      obtain ⟨ol, ho⟩ := yk_bodyG a4 _ y hy
      rw [show sz + 1 + a.2.1.length + (j - (sz + 1 + a.2.1.length)) = j by omega] at ho
      exact Or.inr (Or.inr ⟨_, y, ol, by omega, hy, yp_codeG a6 _ y hy, ho⟩)
/-- a body that begins behind lies behind -/
theorem sRd_apart {sz sz' : Nat} {a : sBo} (h : sRd D B u f sz a) (hlt : sz < sz') (h6 : u.2.2.1 7 sz' = 6) : sEnd sz a ≤ sz' := by
  refine Nat.le_of_not_lt fun hn => ?_
  rcases sRd_in h (j := sz') (by omega) hn with y | y | ⟨i, y, ol, -, -, hg, he⟩
  · omega
  · rw [h6] at y; exact absurd y (by decide)
  · exact (yk_op hg he).1 h6
theorem yo_stepK {ol : List (Nat × Option Nat)} {k0 k op : Nat} (h : ∀ y, y ∈ ol → k0 ≤ y.1) (hk : k0 ≤ k) : ∀ y, y ∈ yo_step ol k op → k0 ≤ y.1 := by
  intro y hy
  unfold yo_step at hy
  by_cases z1 : op = 11
  · rw [if_pos z1] at hy
    exact h y (List.mem_of_mem_tail hy)
  · rw [if_neg z1] at hy
    by_cases z2 : op = 5
    · rw [if_pos z2] at hy
      cases ol with
      | nil => cases hy
      | cons x r =>
        rcases List.mem_cons.mp hy with y' | y'
        · rw [y']; exact h x List.mem_cons_self
        · exact h y (List.mem_cons_of_mem _ y')
    · rw [if_neg z2] at hy
      by_cases z3 : op = 2 ∨ op = 3 ∨ op = 4
      · rw [if_pos z3] at hy
        rcases List.mem_cons.mp hy with y' | y'
        · rw [y']; exact hk
        · exact h y y'
      · rw [if_neg z3] at hy
        exact h y hy
/-- the entries of a body stay as they were read, while bodies before it are checked -/
theorem yk_bodyO {k0 m : Nat} (hw : sWh h u) (hm : u.1 8 = nI m) (hm2 : m ≤ 8192) (h7 : w.2.2.1 7 = u.2.2.1 7) (h9 : w.1 9 = u.1 9) (hj : ∀ j, k0 ≤ j → w.2.2.1 8 j = u.2.2.1 8 j ∧ w.2.2.1 9 j = u.2.2.1 9 j ∧ w.2.2.2 2 j = u.2.2.2 2 j) (h11 : ∀ i, h k0 ≤ i → w.2.2.1 11 i = u.2.2.1 11 i) : ∀ {l : List (Nat × sIn)} {ol : List (Nat × Option Nat)} {k : Nat}, k0 ≤ k → k + l.length ≤ m → (∀ y, y ∈ ol → k0 ≤ y.1 ∧ y.1 ≤ yo_i y ∧ yo_i y < k) → (∀ (j : Nat) y, l[j]? = some y → yg_ins y.2) → yk_body u ol k l → yk_body w ol k l := by
  intro l
  induction l with
  | nil => intro ol k _ _ _ _ _; exact trivial
  | cons x r ih =>
    intro ol k hk hkm hol hg hb
    rw [List.length_cons] at hkm
    have hnext : ∀ y, y ∈ yo_step ol k x.2.1 → k0 ≤ y.1 ∧ y.1 ≤ yo_i y ∧ yo_i y < k + 1 := fun y hy => by
      have h1 := yo_stepB (fun y hy => (hol y hy).2) y hy
      refine ⟨?_, h1⟩
      exact yo_stepK (fun y hy => (hol y hy).1) hk y hy
    refine ⟨?_, ih (by omega) (by omega) hnext (fun j y hy => hg (j + 1) y hy) hb.2⟩
    obtain ⟨a1, a2, ⟨ns, m', a3, a4, a5, a6⟩, a7, a8⟩ := hb.1
    obtain ⟨b1, b2, b3⟩ := hj k hk
    have hgx := hg 0 x rfl
    refine ⟨by rw [h7]; exact a1, by rw [b3]; exact a2, ⟨ns, m', by rw [b1]; exact a3, by rw [h9]; exact a4, a5, fun h14 => ?_⟩, fun h11' y r' hy => ?_, fun h5 y r' hy => ?_⟩
    · obtain ⟨c1, c2⟩ := a6 h14
      refine ⟨c1, fun j c hc => ?_⟩
      obtain ⟨sz, w1, w2, w3⟩ := hw.2
      have hsz : sz = m := (nI_eq (by omega) (by omega)).mp (w1.symm.trans hm)
      have h7k : u.2.2.1 7 k = 14 := by rw [a1, h14]; rfl
      obtain ⟨s, c', q1, q2, q3, q4, q5⟩ := w3 k (by omega) h7k
      rw [h14, show xt_S 14 = 114 by decide +kernel, ye1_114] at a3
      have hns : ns = s := (nI_eq (by omega) (by omega)).mp (a3.symm.trans q1)
      rw [h11 _ (by have := hw.1 k0 k hk; omega)]
      exact c2 j c hc
    · have hm' : y ∈ ol := by rw [hy]; exact List.mem_cons_self
      obtain ⟨d1, d2, d3⟩ := hol y hm'
      rw [(hj (yo_i y) (by omega)).2.1]
      exact a7 h11' y r' hy
    · have hm' : y ∈ ol := by rw [hy]; exact List.mem_cons_self
      obtain ⟨d1, d2, d3⟩ := hol y hm'
      rw [(hj y.1 d1).2.1]
      exact a8 h5 y r' hy
end
