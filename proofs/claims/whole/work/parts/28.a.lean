section
variable {α β γ δ : Type} {g : Nat → Nat} {T : List (Nat × List Nat × List Nat)} {n : Nat}
/-- a block that stands open in a check: (entry, place), instruction, type, whether the rest can't be come to, its part of the stack (top first) -/
abbrev sFr : Type := (Nat × Nat) × Nat × (Option Nat ⊕ Int64) × Bool × List Nat
def sq_h : List sFr → Nat
  | [] => 0
  | f :: r => f.2.2.2.2.length + sq_h r
/-- the whole stack, lowest first -/
def sq_f : List sFr → List Nat
  | [] => []
  | f :: r => sq_f r ++ f.2.2.2.2.reverse
theorem sq_fl : ∀ (Q : List sFr), (sq_f Q).length = sq_h Q := by
  intro Q
  induction Q with
  | nil => rfl
  | cons f r ih =>
    show (sq_f r ++ f.2.2.2.2.reverse).length = f.2.2.2.2.length + sq_h r
    rw [List.length_append, List.length_reverse, ih, Nat.add_comm]
/-- with another stack of its own -/
def sf_s (f : sFr) (s : List Nat) : sFr := (f.1, f.2.1, f.2.2.1, f.2.2.2.1, s)
def sq_pop : List sFr → Option (Nat × List sFr)
  | [] => none
  | f :: r => match f.2.2.2.2 with
    | [] => if f.2.2.2.1 then some (0, f :: r) else none
    | c :: s => some (c, sf_s f s :: r)
def sq_push (c : Nat) : List sFr → Option (List sFr)
  | [] => none
  | f :: r => if sq_h (f :: r) = 100 then none else some (sf_s f (c :: f.2.2.2.2) :: r)
noncomputable def sq_take (g : Nat → Nat) (w : Nat) (Q : List sFr) : Option (List sFr) := (sq_pop Q).bind fun x => xs_if (yfit g x.1 w) (some x.2)
noncomputable def sq_takes (g : Nat → Nat) : List Nat → List sFr → Option (List sFr)
  | [], Q => some Q
  | w :: ws, Q => (sq_take g w Q).bind (sq_takes g ws)
def sq_pushes : List Nat → List sFr → Option (List sFr)
  | [], Q => some Q
  | c :: cs, Q => (sq_push c Q).bind (sq_pushes cs)
/-- a reference of whatever type -/
noncomputable def sq_popR (Q : List sFr) : Option (Nat × List sFr) := (sq_pop Q).bind fun x => xs_if (x.1 = 0 ∨ 16 ≤ x.1) (some x)
def sq_nn (t : Nat) : Nat := if t = 0 then 816 else t - t % 2
/-- the rest of the block can't be come to -/
def sq_lose : List sFr → List sFr
  | [] => []
  | f :: r => (f.1, f.2.1, f.2.2.1, true, []) :: r
/-- a block's parameters and results -/
def sb_n (x : Int64) : Nat := x.toInt.toNat
def sb_par (T : List (Nat × List Nat × List Nat)) (t : Option Nat ⊕ Int64) : List Nat := match t with
  | .inl _ => []
  | .inr x => match T[sb_n x]? with
    | none => []
    | some c => c.2.1
def sb_res (T : List (Nat × List Nat × List Nat)) (t : Option Nat ⊕ Int64) : List Nat := match t with
  | .inl none => []
  | .inl (some c) => [c]
  | .inr x => match T[sb_n x]? with
    | none => []
    | some c => c.2.2
/-- what a way to the block takes -/
def sb_lab (T : List (Nat × List Nat × List Nat)) (f : sFr) : List Nat := if f.2.1 = 3 then sb_par T f.2.2.1 else sb_res T f.2.2.1
/-- a block's type as it may be -/
def sb_ok (T : List (Nat × List Nat × List Nat)) (t : Option Nat ⊕ Int64) : Prop := match t with
  | .inl none => True
  | .inl (some c) => yv_in T T.length c
  | .inr x => 0 ≤ x ∧ yv_fn T (sb_n x)
/-- a block's type that could be read -/
def sb_rd (t : Option Nat ⊕ Int64) : Prop := match t with
  | .inl none => True
  | .inl (some c) => 0 < c ∧ c < 150 ∧ (c = 1 ∨ c = 2 ∨ 16 ≤ c)
  | .inr x => 0 ≤ x
/-- types that may lie on the stack -/
def yvs (n c : Nat) : Prop := c = 816 ∨ c < 3 ∨ (16 ≤ c ∧ yvw n c)
theorem yvs_t {c : Nat} (h : yvs n c) : yvt n c := by
  rcases h with h | h | h
  · exact Or.inl h
  · exact Or.inr ⟨by omega, Or.inl (by omega)⟩
  · exact Or.inr h.2
/-- what is known of every state of the check -/
def sq_ok (T : List (Nat × List Nat × List Nat)) : List sFr → Prop
  | [] => True
  | f :: r => (∀ (i : Nat) c, f.2.2.2.2[i]? = some c → yvs T.length c) ∧ (sb_ok T f.2.2.1 ∧ sb_rd f.2.2.1 ∧ f.2.1 < 10) ∧ sq_ok T r
theorem sq_okF : ∀ {Q : List sFr}, sq_ok T Q → ∀ (i : Nat) c, (sq_f Q)[i]? = some c → yvs T.length c := by
  intro Q
  induction Q with
  | nil => intro _ i c h; simp [sq_f] at h
  | cons f r ih =>
    intro h i c hc
    obtain ⟨h1, h2, h3⟩ := h
    have hc : (sq_f r ++ f.2.2.2.2.reverse)[i]? = some c := hc
    have hm := List.mem_of_getElem? hc
    rcases List.mem_append.mp hm with hm | hm
    · obtain ⟨j, hj⟩ := List.getElem?_of_mem hm
      exact ih h3 j c hj
    · obtain ⟨j, hj⟩ := List.getElem?_of_mem (List.mem_reverse.mp hm)
      exact h1 j c hj
/-- something holds of each open block: its place among them, itself, what lies below it -/
def sq_A (P : Nat → sFr → Nat → Prop) : List sFr → Prop
  | [] => True
  | f :: r => P r.length f (sq_h r) ∧ sq_A P r
theorem sq_Am {P P' : Nat → sFr → Nat → Prop} : ∀ {Q : List sFr}, sq_A P Q → (∀ j f b, j < Q.length → P j f b → P' j f b) → sq_A P' Q := by
  intro Q
  induction Q with
  | nil => intro _ _; exact trivial
  | cons f r ih =>
    intro h hm
    exact ⟨hm _ _ _ (by rw [List.length_cons]; omega) h.1, ih h.2 fun j f b hj => hm j f b (by rw [List.length_cons]; omega)⟩
/-- the block that a number tells -/
theorem sq_Aget {P : Nat → sFr → Nat → Prop} : ∀ {Q : List sFr} {d : Nat} {f : sFr}, sq_A P Q → Q[d]? = some f → ∃ b, P (Q.length - 1 - d) f b := by
  intro Q
  induction Q with
  | nil => intro d f _ h; simp at h
  | cons x r ih =>
    intro d f h hd
    cases d with
    | zero =>
      cases hd
      refine ⟨sq_h r, ?_⟩
      rw [List.length_cons, Nat.add_sub_cancel, Nat.sub_zero]
      exact h.1
    | succ d =>
      have hd : r[d]? = some f := hd
      obtain ⟨b, hb⟩ := ih h.2 hd
      have := yl_lt hd
      refine ⟨b, ?_⟩
      rw [List.length_cons, show r.length + 1 - 1 - (d + 1) = r.length - 1 - d by omega]
      exact hb
theorem sq_okget : ∀ {Q : List sFr} {d : Nat} {f : sFr}, sq_ok T Q → Q[d]? = some f → sb_ok T f.2.2.1 ∧ sb_rd f.2.2.1 ∧ f.2.1 < 10 := by
  intro Q
  induction Q with
  | nil => intro d f _ h; simp at h
  | cons x r ih =>
    intro d f h hd
    cases d with
    | zero => cases hd; exact h.2.1
    | succ d => exact ih h.2.2 hd
theorem sq_pop_0 {f : sFr} {r : List sFr} (hs : f.2.2.2.2 = []) : sq_pop (f :: r) = if f.2.2.2.1 then some (0, f :: r) else none := by
  show (match f.2.2.2.2 with
    | [] => if f.2.2.2.1 then some (0, f :: r) else none
    | c :: s => some (c, sf_s f s :: r)) = _
  rw [hs]
theorem sq_pop_c {f : sFr} {r : List sFr} {c : Nat} {s : List Nat} (hs : f.2.2.2.2 = c :: s) : sq_pop (f :: r) = some (c, sf_s f s :: r) := by
  show (match f.2.2.2.2 with
    | [] => if f.2.2.2.1 then some (0, f :: r) else none
    | c :: s => some (c, sf_s f s :: r)) = _
  rw [hs]
theorem sq_popS {Q Q' : List sFr} {c : Nat} (h : sq_pop Q = some (c, Q')) : (sq_f Q = sq_f Q' ++ [c] ∧ sq_h Q = sq_h Q' + 1 ∧ Q'.length = Q.length ∧ ∃ f r s, Q = f :: r ∧ f.2.2.2.2 = c :: s ∧ Q' = sf_s f s :: r) ∨ (c = 0 ∧ Q' = Q ∧ ∃ f r, Q = f :: r ∧ f.2.2.2.2 = [] ∧ f.2.2.2.1 = true) := by
  cases Q with
  | nil => cases h
  | cons f r =>
    cases hs : f.2.2.2.2 with
    | nil =>
      rw [sq_pop_0 hs] at h
      by_cases hd : f.2.2.2.1 = true
      · rw [if_pos hd] at h
        cases h
        exact Or.inr ⟨rfl, rfl, f, r, rfl, hs, hd⟩
      · rw [if_neg hd] at h; cases h
    | cons x s =>
      rw [sq_pop_c hs] at h
      cases h
      refine Or.inl ⟨?_, ?_, rfl, f, r, s, rfl, hs, rfl⟩
      · show sq_f r ++ f.2.2.2.2.reverse = (sq_f r ++ s.reverse) ++ [c]
        rw [hs, List.reverse_cons, List.append_assoc]
      · show f.2.2.2.2.length + sq_h r = s.length + sq_h r + 1
        rw [hs, List.length_cons]; omega
end
