section
variable {α β γ δ σ τ : Type} {B : Nat → Int32} {u v w u0 u1 : xk_St} {lim p q : Nat} {T : List (Nat × List Nat × List Nat)} {F : List Nat} {G : List (Nat × Nat × Nat × Int64)} {L : List Nat} {n fu tc mc : Nat} {Q Q' Q1 : List sFr}
/-- what can be read as a block's type -/
theorem yp_BTG {t : Option Nat ⊕ Int64} (h : yp_BT B lim p = .inl (t, q)) : sb_rd t := by
  unfold yp_BT at h
  obtain ⟨b, r, h1, h⟩ := yp_thenI h
  by_cases z : b = 64
  · rw [if_pos z] at h; cases h; exact trivial
  · rw [if_neg z] at h
    by_cases z2 : b = 99 ∨ b = 100 ∨ b = 108 ∨ b = 109 ∨ b = 126 ∨ b = 127
    · rw [if_pos z2] at h
      obtain ⟨c, r2, h2, h⟩ := yp_thenI h
      cases h
      have := yp_Vb h2
      exact ⟨this.1, by omega, yp_Vc h2⟩
    · rw [if_neg z2] at h
      obtain ⟨x, r2, h2, h⟩ := yp_thenI h
      by_cases z3 : 0 ≤ x
      · rw [if_pos z3] at h; cases h; exact z3
      · rw [if_neg z3] at h; cases h
def yg_imm (s : Int32) (i : (Option Nat ⊕ Int64) × Int64 × Nat × List Nat) : Prop := ¬ s = 45 ∧ ¬ s = 33 ∧ (s = 98 → sb_rd i.1) ∧ (s = 114 → ∃ m, m < 2 ^ 32 ∧ i.1 = .inr (lN m)) ∧ (s = 116 → ∃ t, t ≤ 66 ∧ i.1 = .inr (lN t)) ∧ (s = 117 → ∃ m, m < 2 ^ 32 ∧ i.1 = .inr (lN m) ∧ i.2.1 = 0) ∧ (s = 119 → ∃ m x, m < 2 ^ 32 ∧ x < 2 ^ 32 ∧ i.1 = .inr (lN m) ∧ i.2.1 = lN x)
theorem yp_immG {s : Int32} {i : (Option Nat ⊕ Int64) × Int64 × Nat × List Nat} (h : yp_imm B lim s p = .inl (i, q)) : yg_imm s i := by
  unfold yp_imm at h
  by_cases z : s = 45
  · rw [if_pos z] at h; cases h
  rw [if_neg z] at h
  by_cases z46 : s = 46
  · subst z46
    exact ⟨by decide, by decide, fun y => absurd y (by decide), fun y => absurd y (by decide), fun y => absurd y (by decide), fun y => absurd y (by decide), fun y => absurd y (by decide)⟩
  rw [if_neg z46] at h
  by_cases z98 : s = 98
  · subst z98
    rw [if_pos rfl] at h
    obtain ⟨t, r, h1, h⟩ := yp_thenI h
    cases h
    exact ⟨by decide, by decide, fun _ => yp_BTG h1, fun y => absurd y (by decide), fun y => absurd y (by decide), fun y => absurd y (by decide), fun y => absurd y (by decide)⟩
  rw [if_neg z98] at h
  by_cases z101 : s = 101
  · subst z101
    exact ⟨by decide, by decide, fun y => absurd y (by decide), fun y => absurd y (by decide), fun y => absurd y (by decide), fun y => absurd y (by decide), fun y => absurd y (by decide)⟩
  rw [if_neg z101] at h
  by_cases z105 : s = 105
  · subst z105
    exact ⟨by decide, by decide, fun y => absurd y (by decide), fun y => absurd y (by decide), fun y => absurd y (by decide), fun y => absurd y (by decide), fun y => absurd y (by decide)⟩
  rw [if_neg z105] at h
  by_cases z108 : s = 108
  · subst z108
    exact ⟨by decide, by decide, fun y => absurd y (by decide), fun y => absurd y (by decide), fun y => absurd y (by decide), fun y => absurd y (by decide), fun y => absurd y (by decide)⟩
  rw [if_neg z108] at h
  by_cases z110 : s = 110
  · subst z110
    exact ⟨by decide, by decide, fun y => absurd y (by decide), fun y => absurd y (by decide), fun y => absurd y (by decide), fun y => absurd y (by decide), fun y => absurd y (by decide)⟩
  rw [if_neg z110] at h
  by_cases z114 : s = 114
  · subst z114
    rw [if_pos rfl] at h
    obtain ⟨n, r, h1, h⟩ := yp_thenI h
    obtain ⟨l, r2, h2, h⟩ := yp_thenI h
    obtain ⟨m, r3, h3, h⟩ := yp_thenI h
    cases h
    exact ⟨by decide, by decide, fun y => absurd y (by decide), fun _ => ⟨m, (yp_Nb h3).1, rfl⟩, fun y => absurd y (by decide), fun y => absurd y (by decide), fun y => absurd y (by decide)⟩
  rw [if_neg z114] at h
  by_cases z116 : s = 116
  · subst z116
    rw [if_pos rfl] at h
    obtain ⟨t, r, h1, h⟩ := yp_thenI h
    cases h
    exact ⟨by decide, by decide, fun y => absurd y (by decide), fun y => absurd y (by decide), fun _ => ⟨t, yp_Tb h1, rfl⟩, fun y => absurd y (by decide), fun y => absurd y (by decide)⟩
  rw [if_neg z116] at h
  by_cases z117 : s = 117
  · subst z117
    rw [if_pos rfl] at h
    obtain ⟨m, r, h1, h⟩ := yp_thenI h
    cases h
    exact ⟨by decide, by decide, fun y => absurd y (by decide), fun y => absurd y (by decide), fun y => absurd y (by decide), fun _ => ⟨m, (yp_Nb h1).1, rfl, rfl⟩, fun y => absurd y (by decide)⟩
  rw [if_neg z117] at h
  by_cases z119 : s = 119
  · subst z119
    rw [if_pos rfl] at h
    obtain ⟨m, r, h1, h⟩ := yp_thenI h
    obtain ⟨x, r2, h2, h⟩ := yp_thenI h
    cases h
    exact ⟨by decide, by decide, fun y => absurd y (by decide), fun y => absurd y (by decide), fun y => absurd y (by decide), fun y => absurd y (by decide), fun _ => ⟨m, x, (yp_Nb h1).1, (yp_Nb h2).1, rfl, rfl⟩⟩
  rw [if_neg z119] at h
  by_cases z122 : s = 122
  · subst z122
    exact ⟨by decide, by decide, fun y => absurd y (by decide), fun y => absurd y (by decide), fun y => absurd y (by decide), fun y => absurd y (by decide), fun y => absurd y (by decide)⟩
  rw [if_neg z122] at h
  cases h
theorem yp_insG {i : sIn} (h : yp_ins B lim p = .inl (i, q)) : yg_ins i := by
  unfold yp_ins at h
  obtain ⟨b, r, h1, h⟩ := yp_thenI h
  obtain ⟨⟨j, hj, rfl⟩, -, -⟩ := yp_bb h1
  by_cases z : nI j = 251
  · rw [if_pos z] at h
    obtain ⟨n, r2, h2, h⟩ := yp_thenI h
    by_cases z2 : n ≤ 30
    · rw [if_pos z2] at h
      obtain ⟨x, r3, h3, h⟩ := yp_thenI h
      cases h
      exact ⟨by show 256 + n < 287; omega, yp_immG h3⟩
    · rw [if_neg z2] at h; cases h
  · rw [if_neg z, nI_clamp (by omega)] at h
    obtain ⟨x, r3, h3, h⟩ := yp_thenI h
    cases h
    exact ⟨by show j < 287; omega, yp_immG h3⟩
/-- the blocks that stand open, as the reading and as the check have them -/
def sOl (u : xk_St) : List (Nat × Option Nat) → List sFr → Prop
  | [], [] => True
  | x :: r, f :: q => x.1 = f.1.1 ∧ (match x.2 with
    | none => ¬ f.2.1 = 5
    | some e => f.2.1 = 5 ∧ u.2.2.1 9 x.1 = nI e ∧ e < 8192 ∧ u.2.2.1 7 e = 5) ∧ (q = [] ↔ f.2.1 = 0) ∧ u.2.2.1 7 f.1.1 = nI (sh_op f.2.1) ∧ f.2.1 ∈ [0, 2, 3, 4, 5] ∧ sOl u r q
  | _, _ => False
theorem sOl_n {ol : List (Nat × Option Nat)} (h : sOl u ol Q) : ol = [] ↔ Q = [] := by
  cases ol with
  | nil =>
    cases Q with
    | nil => exact ⟨fun _ => rfl, fun _ => rfl⟩
    | cons f q => exact absurd h id
  | cons x r =>
    cases Q with
    | nil => exact absurd h id
    | cons f q => exact ⟨fun z => (by cases z), fun z => (by cases z)⟩
/-- the innermost block may have changed -/
theorem sOl_tp {ol : List (Nat × Option Nat)} (h : sOl u ol Q) (ht : sTp Q Q') : sOl u ol Q' := by
  obtain ⟨f, f', r, rfl, rfl, a, b, c⟩ := ht
  cases ol with
  | nil => exact absurd h id
  | cons x rr =>
    unfold sOl at h ⊢
    rw [a, b]
    exact h
theorem sh_4 : ∀ o, o ∈ [0, 2, 3, 4, 5] → (nI (sh_op o) = 4 ↔ o = 4 ∨ o = 5) := by decide +kernel
/-- an instruction's step, for the blocks that stand open -/
theorem sOl_step {ol : List (Nat × Option Nat)} {k pp : Nat} {i : sIn} {b : Bool} {st st' : List Bool} (h : sOl u ol Q) (hQ : ¬ Q = []) (hk : k < 8192) (hi : yg_ins i) (hent : yk_ent u ol k i) (hst : yo_st (u.2.2.1 7) ol = b :: st) (hn : yn_next i.1 b st = some st') (hs : sq_step T F tc mc G L k pp i Q = some Q') : sOl u (yo_step ol k i.1) Q' ∧ st' = yo_st (u.2.2.1 7) (yo_step ol k i.1) := by
  obtain ⟨a1, -, -, a7, a8⟩ := hent
  cases ol with
  | nil => exact absurd ((sOl_n h).mp rfl) hQ
  | cons x r =>
    cases Q with
    | nil => exact absurd rfl hQ
    | cons f q =>
      have hb : b = (x.2.isNone && decide (u.2.2.1 7 x.1 = 4)) ∧ st = yo_st (u.2.2.1 7) r := by
        have : (x.2.isNone && decide (u.2.2.1 7 x.1 = 4)) :: yo_st (u.2.2.1 7) r = b :: st := hst
        injection this with p1 p2
        exact ⟨p1.symm, p2.symm⟩
      obtain ⟨rfl, rfl⟩ := hb
      have h0 := h
      obtain ⟨h1, h2, h3, h4, h5, h6⟩ := h
      unfold yn_next at hn
      unfold yo_step
      by_cases z11 : i.1 = 11
      · rw [if_pos z11] at hn ⊢
        cases hn
        refine ⟨?_, rfl⟩
        have hs : sq_end T (f :: q) = some Q' := by
          unfold sq_step at hs
          rw [z11] at hs
          exact hs
        obtain ⟨-, hr⟩ := sq_endS hs
        rcases hr with ⟨rfl, rfl⟩ | ⟨hr, -, ht⟩
        · cases r with
          | nil => exact trivial
          | cons y r => exact absurd h6 id
        · exact sOl_tp h6 ht
      rw [if_neg z11] at hn ⊢
      by_cases z5 : i.1 = 5
      · rw [if_pos z5] at hn ⊢
        have hs : sq_else T (f :: q) = some Q' := by
          unfold sq_step at hs
          rw [z5] at hs
          exact hs
        rw [sq_elseS hs]
        have hc : (x.2.isNone && decide (u.2.2.1 7 x.1 = 4)) = true := by
          cases hz : (x.2.isNone && decide (u.2.2.1 7 x.1 = 4)) with
          | true => rfl
          | false => rw [hz] at hn; cases hn
        rw [hc] at hn
        cases hn
        obtain ⟨c1, c2⟩ := Bool.and_eq_true_iff.mp hc
        have c2 := of_decide_eq_true c2
        refine ⟨?_, rfl⟩
        have hf4 : f.2.1 = 4 := by
          rw [h1, h4] at c2
          rcases (sh_4 _ h5).mp c2 with y | y
          · exact y
          · cases hx : x.2 with
            | none => rw [hx] at h2; exact absurd y h2
            | some e => rw [hx] at c1; cases c1
        have h7k : u.2.2.1 7 k = 5 := by rw [a1, if_neg z11, z5]; rfl
        refine ⟨h1, ⟨rfl, a8 z5 x r rfl, hk, h7k⟩, ⟨fun y => ?_, fun y => ?_⟩, ?_, by show 5 ∈ [0, 2, 3, 4, 5]; decide, h6⟩
        · have := h3.mp y; omega
        · have y : (5 : Nat) = 0 := y
          omega
        · show u.2.2.1 7 f.1.1 = nI (sh_op 5)
          rw [h4, hf4]; rfl
      rw [if_neg z5] at hn ⊢
      by_cases z2 : i.1 = 2 ∨ i.1 = 3 ∨ i.1 = 4
      · rw [if_pos z2]
        have h7k : u.2.2.1 7 k = nI i.1 := by rw [a1, if_neg z11]
        have hq : ∃ Q1, sTp (f :: q) Q1 ∧ ∃ s, Q' = ((k, pp), i.1, i.2.1, false, s) :: Q1 := by
          have hne : ¬ f :: q = [] := fun y => by cases y
          unfold sq_step at hs
          rcases z2 with y | y | y
          · rw [y] at hs
            obtain ⟨-, Q1, -, e1, e2⟩ := sq_blockS hne hs
            exact ⟨Q1, e1, _, by rw [y]; exact e2⟩
          · rw [y] at hs
            obtain ⟨-, Q1, -, e1, e2⟩ := sq_blockS hne hs
            exact ⟨Q1, e1, _, by rw [y]; exact e2⟩
          · rw [y] at hs
            have hs : ((sq_take (yl_f T) 1 (f :: q)).bind fun Q1 => sq_block T k pp 4 i.2.1 Q1) = some Q' := hs
            obtain ⟨Q0, e0, hs⟩ := Option.bind_eq_some_iff.mp hs
            have t0 := sTp_take e0
            obtain ⟨-, Q1, -, e1, e2⟩ := sq_blockS (sTp_ne t0) hs
            exact ⟨Q1, sTp_t t0 e1, _, by rw [y]; exact e2⟩
        obtain ⟨Q1, e1, s, rfl⟩ := hq
        refine ⟨⟨rfl, ?_, ⟨fun y => absurd y (sTp_ne e1), fun y => ?_⟩, ?_, ?_, sOl_tp h0 e1⟩, ?_⟩
        · show ¬ i.1 = 5
          exact z5
        · have y : i.1 = 0 := y
          omega
        · show u.2.2.1 7 k = nI (sh_op i.1)
          rw [h7k]
          unfold sh_op
          rw [if_neg (by omega), if_neg (by omega)]
        · show i.1 ∈ [0, 2, 3, 4, 5]
          rcases z2 with y | y | y <;> rw [y] <;> decide
        · show st' = (true && decide (u.2.2.1 7 k = 4)) :: yo_st (u.2.2.1 7) (x :: r)
          rw [hst, h7k, Bool.true_and]
          have c4 : nI i.1 = (4 : Int32) ↔ i.1 = 4 := nI_eq (b := 4) (by omega) (by decide)
          by_cases y4 : i.1 = 4
          · rw [if_neg (by omega), if_pos y4] at hn
            cases hn
            rw [decide_eq_true (c4.mpr y4)]
          · rw [if_pos (by omega)] at hn
            cases hn
            rw [decide_eq_false (fun y => y4 (c4.mp y))]
      · rw [if_neg z2]
        rw [if_neg (by omega), if_neg (by omega)] at hn
        cases hn
        exact ⟨sOl_tp h0 (sTp_step (fun y => by cases y) (by omega) hs), hst.symm⟩
end
