section
variable {α β γ δ : Type} {B : Nat → Int32} {u v w : xk_St} {lim p q fu : Nat} {e : Int32}
theorem yp_BT_ge {t : Option Nat ⊕ Int64} (h : yp_BT B lim p = .inl (t, q)) : p < q ∧ q ≤ lim := by
  obtain ⟨b, r, h1, h⟩ := yp_thenI h
  obtain ⟨hr, h0⟩ := yp_pk h1
  split at h
  · cases h; omega
  · split at h
    · obtain ⟨c, r2, h2, h⟩ := yp_thenI h
      have := yp_V_eats h2
      cases h; omega
    · obtain ⟨c, r2, h2, h⟩ := yp_thenI h
      have := yp_S_eats h2
      split at h
      · cases h; omega
      · cases h
theorem yp_imm_ge {s : Int32} {i : (Option Nat ⊕ Int64) × Int64 × Nat × List Nat} (hp : p ≤ lim) (h : yp_imm B lim s p = .inl (i, q)) : p ≤ q ∧ q ≤ lim := by
  unfold yp_imm at h
  by_cases c0 : s = 45
  · rw [if_pos c0] at h
    cases h
  rw [if_neg c0] at h
  by_cases c1 : s = 46
  · rw [if_pos c1] at h
    cases h; omega
  rw [if_neg c1] at h
  by_cases c2 : s = 98
  · rw [if_pos c2] at h
    obtain ⟨c, r2, h2, h⟩ := yp_thenI h
    have := yp_BT_ge h2
    cases h; omega
  rw [if_neg c2] at h
  by_cases c3 : s = 101
  · rw [if_pos c3] at h
    cases h; omega
  rw [if_neg c3] at h
  by_cases c4 : s = 105
  · rw [if_pos c4] at h
    obtain ⟨c, r2, h2, h⟩ := yp_thenI h
    have := yp_S_eats h2
    cases h; omega
  rw [if_neg c4] at h
  by_cases c5 : s = 108
  · rw [if_pos c5] at h
    obtain ⟨c, r2, h2, h⟩ := yp_thenI h
    have := yp_S_eats h2
    cases h; omega
  rw [if_neg c5] at h
  by_cases c6 : s = 110
  · rw [if_pos c6] at h
    cases h; omega
  rw [if_neg c6] at h
  by_cases c7 : s = 114
  · rw [if_pos c7] at h
    obtain ⟨c, r2, h2, h⟩ := yp_thenI h
    obtain ⟨l, r3, h3, h⟩ := yp_thenI h
    obtain ⟨m, r4, h4, h⟩ := yp_thenI h
    have := yp_Nb h2
    have := yp_rep_eats yp_N_eats' h3
    have := yp_Nb h4
    cases h; omega
  rw [if_neg c7] at h
  by_cases c8 : s = 116
  · rw [if_pos c8] at h
    obtain ⟨c, r2, h2, h⟩ := yp_thenI h
    have := yp_T_eats h2
    cases h; omega
  rw [if_neg c8] at h
  by_cases c9 : s = 117
  · rw [if_pos c9] at h
    obtain ⟨c, r2, h2, h⟩ := yp_thenI h
    have := yp_Nb h2
    cases h; omega
  rw [if_neg c9] at h
  by_cases c10 : s = 119
  · rw [if_pos c10] at h
    obtain ⟨c, r2, h2, h⟩ := yp_thenI h
    obtain ⟨m, r3, h3, h⟩ := yp_thenI h
    have := yp_Nb h2
    have := yp_Nb h3
    cases h; omega
  rw [if_neg c10] at h
  by_cases c11 : s = 122
  · rw [if_pos c11] at h
    obtain ⟨c, r2, h2, h⟩ := yp_thenI h
    have := yp_want_eats h2
    cases h; omega
  rw [if_neg c11] at h
  cases h
theorem yp_ins_eats : yp_eats lim (yp_ins B lim) := by
  intro p a q h
  obtain ⟨b, r, h1, h⟩ := yp_thenI h
  obtain ⟨-, hr, h0⟩ := yp_bb h1
  split at h
  · obtain ⟨n, r2, h2, h⟩ := yp_thenI h
    have := yp_Nb h2
    split at h
    · obtain ⟨i, r3, h3, h⟩ := yp_thenI h
      have := yp_imm_ge this.2.2 h3
      cases h; omega
    · cases h
  · obtain ⟨i, r3, h3, h⟩ := yp_thenI h
    have := yp_imm_ge (by omega) h3
    cases h; omega
/-- which blocks stand open behind an instruction: true where an 0x05 may come; none if it may not -/
def yn_next (op : Nat) (s : Bool) (st : List Bool) : Option (List Bool) :=
  if op = 11 then some st else if op = 5 then (if s then some (false :: st) else none) else if op = 2 ∨ op = 3 then some (false :: s :: st) else if op = 4 then some (true :: s :: st) else some (s :: st)
def yp_opt {α : Type} (o : Option (List Bool)) (f : List Bool → (α × Nat) ⊕ Nat) : (α × Nat) ⊕ Nat := match o with
  | none => .inr 0
  | some st => f st
/-- instructions, until the outermost block is closed -/
def yp_code (B : Nat → Int32) (lim : Nat) : Nat → List Bool → Nat → (List (Nat × Nat × (Option Nat ⊕ Int64) × Int64 × Nat × List Nat) × Nat) ⊕ Nat
  | 0, _, _ => .inr 0
  | _ + 1, [], p => .inl ([], p)
  | d + 1, s :: st, p => yp_then (yp_ins B lim p) fun i q => yp_opt (yn_next i.1 s st) fun st' => yp_then (yp_code B lim d st' q) fun l r => .inl ((p, i) :: l, r)
theorem yp_code_0 {st : List Bool} : yp_code B lim 0 st p = .inr 0 := by unfold yp_code; rfl
theorem yp_code_n {d : Nat} : yp_code B lim (d + 1) [] p = .inl ([], p) := by unfold yp_code; rfl
theorem yp_code_s {d : Nat} {s : Bool} {st : List Bool} : yp_code B lim (d + 1) (s :: st) p = yp_then (yp_ins B lim p) fun i q => yp_opt (yn_next i.1 s st) fun st' => yp_then (yp_code B lim d st' q) fun l r => .inl ((p, i) :: l, r) := by conv => lhs; unfold yp_code
/-- a group of locals -/
def yp_loc (B : Nat → Int32) (lim p : Nat) : ((Nat × Nat) × Nat) ⊕ Nat := yp_then (yp_N B lim p) fun n q => yp_then (yp_V B lim q) fun c q => .inl ((n, c), q)
theorem yp_loc_eats : yp_eats lim (yp_loc B lim) := by
  intro p a q h
  obtain ⟨n, r, h1, h⟩ := yp_thenI h
  obtain ⟨c, r2, h2, h⟩ := yp_thenI h
  have := yp_Nb h1
  have := yp_V_eats h2
  cases h; omega
/-- a body: its end, its locals, its instructions -/
def yp_body (D : Nat) (B : Nat → Int32) (L p : Nat) : ((Nat × List (Nat × Nat) × List (Nat × Nat × (Option Nat ⊕ Int64) × Int64 × Nat × List Nat)) × Nat) ⊕ Nat :=
  yp_then (yp_N B L p) fun n q => if n ≤ L - q then
    yp_then (yp_N B (q + n) q) fun g r => yp_then (yp_rep (yp_loc B (q + n)) g r) fun ls r => yp_then (yp_code B (q + n) D [false] r) fun is r => if r = q + n then .inl ((q + n, ls, is), r) else .inr 0
    else .inr 0
end
