section
variable {α β γ : Type} {B : Nat → Int32} {lim p q D len : Nat}
/-- only two kinds of fault are told -/
def y1 (s : (α × Nat) ⊕ Nat) : Prop := ∀ k, s = .inr k → k ≤ 1
theorem y1_l {a : α × Nat} : y1 (.inl a) := fun _ h => by cases h
theorem y1_0 : y1 (.inr 0 : (α × Nat) ⊕ Nat) := fun _ h => by cases h; decide
theorem y1_1 : y1 (.inr 1 : (α × Nat) ⊕ Nat) := fun _ h => by cases h; decide
theorem y1_if {c : Prop} [Decidable c] {a b : (α × Nat) ⊕ Nat} (h1 : y1 a) (h2 : y1 b) : y1 (if c then a else b) := by
  by_cases h : c
  · rw [if_pos h]; exact h1
  · rw [if_neg h]; exact h2
theorem y1_t {m : (α × Nat) ⊕ Nat} {g : α → Nat → (β × Nat) ⊕ Nat} (h1 : y1 m) (h2 : ∀ a q, y1 (g a q)) : y1 (yp_then m g) := by
  rcases m with ⟨a, q⟩ | k
  · exact h2 a q
  · intro j hj
    cases hj
    exact h1 k rfl
theorem y1_m {m : (α × Nat) ⊕ Nat} {f : α → β} (h1 : y1 m) : y1 (yp_map f m) := y1_t h1 fun _ _ => y1_l
theorem y1_opt {o : Option (List Bool)} {f : List Bool → (α × Nat) ⊕ Nat} (h : ∀ s, y1 (f s)) : y1 (yp_opt o f) := by
  cases o with
  | none => exact y1_0
  | some s => exact h s
theorem y1_rep {it : Nat → (α × Nat) ⊕ Nat} (h : ∀ p, y1 (it p)) : ∀ (n p : Nat), y1 (yp_rep it n p) := by
  intro n
  induction n with
  | zero => intro p; exact y1_l
  | succ n ih => intro p; exact y1_t (h p) fun a q => y1_t (ih q) fun _ _ => y1_l
theorem y1_byte : y1 (yp_byte B lim p) := y1_if y1_0 y1_l
theorem y1_peek : y1 (yp_peek B lim p) := y1_if y1_0 y1_l
theorem y1_Ug : ∀ (d k p : Nat) (v : Int64), y1 (yp_Ug B lim d k p v) := by
  intro d
  induction d with
  | zero => intro k p v; exact y1_0
  | succ d ih => intro k p v; exact y1_if y1_0 (y1_if (ih _ _ _) (y1_if y1_l y1_0))
theorem y1_U : y1 (yp_U B lim p) := y1_Ug _ _ _ _
theorem y1_N : y1 (yp_N B lim p) := y1_m y1_U
theorem y1_Se {w k : Nat} {b : Int32} {v : Int64} : y1 (yp_Se w k b v q) := y1_if (y1_if y1_l y1_0) (y1_if y1_l y1_0)
theorem y1_Sg {w : Nat} : ∀ (d k p : Nat) (v : Int64), y1 (yp_Sg B lim w d k p v) := by
  intro d
  induction d with
  | zero => intro k p v; exact y1_0
  | succ d ih => intro k p v; exact y1_if y1_0 (y1_if y1_0 (y1_if (ih _ _ _) y1_Se))
theorem y1_S {w : Nat} : y1 (yp_S B lim w p) := y1_Sg _ _ _ _
theorem y1_T : y1 (yp_T B lim p) := y1_t y1_peek fun _ _ => y1_if y1_l (y1_if y1_l (y1_t y1_S fun _ _ => y1_if y1_l y1_0))
theorem y1_flag : y1 (yp_flag B lim p) := y1_t y1_byte fun _ _ => y1_if y1_l y1_0
theorem y1_want {w : Int32} : y1 (yp_want w B lim p) := y1_t y1_byte fun _ _ => y1_if y1_l y1_0
theorem y1_V : y1 (yp_V B lim p) := y1_t y1_byte fun _ _ => y1_if (y1_t y1_T fun _ _ => y1_l) (y1_if (y1_t y1_T fun _ _ => y1_l) (y1_if y1_l (y1_if y1_l (y1_if y1_l (y1_if y1_l y1_0)))))
theorem y1_F : y1 (yp_F B lim p) := y1_t y1_peek fun _ _ => y1_if y1_l (y1_if y1_l y1_V)
theorem y1_fld : y1 (yp_fld B lim p) := y1_t y1_F fun _ _ => y1_t y1_flag fun _ _ => y1_l
theorem y1_tf : y1 (yp_tf B lim p) := y1_t y1_byte fun _ _ => y1_if (y1_t (y1_rep (fun _ => y1_fld) _ _) fun _ _ => y1_l) (y1_if (y1_t y1_N fun _ _ => y1_t (y1_rep (fun _ => y1_fld) _ _) fun _ _ => y1_l) (y1_if (y1_t y1_N fun _ _ => y1_t (y1_rep (fun _ => y1_V) _ _) fun _ _ => y1_t y1_N fun _ _ => y1_t (y1_rep (fun _ => y1_V) _ _) fun _ _ => y1_l) y1_0))
theorem y1_place : y1 (yp_place B lim p) := y1_t y1_want fun _ _ => y1_t y1_want fun _ _ => y1_t y1_S fun _ _ => y1_t y1_want fun _ _ => y1_l
theorem y1_limits : y1 (yp_limits B lim p) := y1_t y1_flag fun _ _ => y1_t y1_N fun _ _ => y1_if (y1_t y1_N fun _ _ => y1_l) y1_l
theorem y1_bytes : y1 (yp_bytes B lim p) := y1_t y1_N fun _ _ => y1_if y1_l y1_0
theorem y1_const : y1 (yp_const B lim p) := y1_t y1_byte fun _ _ => y1_if (y1_t y1_S fun _ _ => y1_t y1_want fun _ _ => y1_l) (y1_if (y1_t y1_S fun _ _ => y1_t y1_want fun _ _ => y1_l) (y1_if (y1_t y1_T fun _ _ => y1_t y1_want fun _ _ => y1_l) y1_0))
theorem y1_BT : y1 (yp_BT B lim p) := y1_t y1_peek fun _ _ => y1_if y1_l (y1_if (y1_t y1_V fun _ _ => y1_l) (y1_t y1_S fun _ _ => y1_if y1_l y1_0))
theorem y1_imm {s : Int32} : y1 (yp_imm B lim s p) := y1_if y1_1 (y1_if y1_l (y1_if (y1_t y1_BT fun _ _ => y1_l) (y1_if y1_l (y1_if (y1_t y1_S fun _ _ => y1_l) (y1_if (y1_t y1_S fun _ _ => y1_l) (y1_if y1_l (y1_if (y1_t y1_N fun _ _ => y1_t (y1_rep (fun _ => y1_N) _ _) fun _ _ => y1_t y1_N fun _ _ => y1_l) (y1_if (y1_t y1_T fun _ _ => y1_l) (y1_if (y1_t y1_N fun _ _ => y1_l) (y1_if (y1_t y1_N fun _ _ => y1_t y1_N fun _ _ => y1_l) (y1_if (y1_t y1_want fun _ _ => y1_l) y1_0)))))))))))
theorem y1_ins : y1 (yp_ins B lim p) := y1_t y1_byte fun _ _ => y1_if (y1_t y1_N fun _ _ => y1_if (y1_t y1_imm fun _ _ => y1_l) y1_0) (y1_t y1_imm fun _ _ => y1_l)
theorem y1_tab : y1 (yp_tab B lim p) := y1_t y1_want fun _ _ => y1_limits
theorem y1_exp : y1 (yp_exp B lim p) := y1_t y1_bytes fun _ _ => y1_t y1_byte fun _ _ => y1_if (y1_t y1_N fun _ _ => y1_l) y1_0
theorem y1_da : y1 (yp_da B lim p) := y1_t y1_place fun _ _ => y1_t y1_bytes fun _ _ => y1_l
theorem y1_glo : y1 (yp_glo B lim p) := y1_t y1_V fun _ _ => y1_t y1_flag fun _ _ => y1_t y1_const fun _ _ => y1_l
theorem y1_code : ∀ (d : Nat) (st : List Bool) (p : Nat), y1 (yp_code B lim d st p) := by
  intro d
  induction d with
  | zero => intro st p; rw [yp_code_0]; exact y1_0
  | succ d ih =>
    intro st p
    cases st with
    | nil => rw [yp_code_n]; exact y1_l
    | cons s st => rw [yp_code_s]; exact y1_t y1_ins fun _ _ => y1_opt fun _ => y1_t (ih _ _) fun _ _ => y1_l
theorem y1_loc : y1 (yp_loc B lim p) := y1_t y1_N fun _ _ => y1_t y1_V fun _ _ => y1_l
theorem y1_body : y1 (yp_body D B lim p) := y1_t y1_N fun _ _ => y1_if (y1_t y1_N fun _ _ => y1_t (y1_rep (fun _ => y1_loc) _ _) fun _ _ => y1_t (y1_code _ _ _) fun _ _ => y1_if y1_l y1_0) y1_0
theorem y1_el : y1 (yp_el B lim p) := y1_t y1_place fun _ _ => y1_t y1_N fun _ _ => y1_t (y1_rep (fun _ => y1_N) _ _) fun _ _ => y1_l
theorem y1_row {it : Nat → (α × Nat) ⊕ Nat} (h : ∀ p, y1 (it p)) : y1 (yp_row B lim it p) := y1_t y1_N fun _ _ => y1_rep h _ _
theorem y1_cont {id : Nat} : y1 (yp_cont D B id lim p) := y1_if y1_l (y1_if (y1_m (y1_row fun _ => y1_tf)) (y1_if (y1_m (y1_row fun _ => y1_N)) (y1_if (y1_m (y1_row fun _ => y1_tab)) (y1_if (y1_m (y1_row fun _ => y1_limits)) (y1_if (y1_m (y1_row fun _ => y1_glo)) (y1_if (y1_m (y1_row fun _ => y1_exp)) (y1_if (y1_m y1_N) (y1_if (y1_m (y1_row fun _ => y1_el)) (y1_if (y1_m (y1_row fun _ => y1_body)) (y1_m (y1_row fun _ => y1_da)))))))))))
theorem y1_secs : ∀ (d last p : Nat), y1 (yp_secs D B len d last p) := by
  intro d
  induction d with
  | zero => intro last p; exact y1_0
  | succ d ih => intro last p; exact y1_if y1_l (y1_t y1_byte fun _ _ => y1_if (y1_t y1_N fun _ _ => y1_if (y1_t y1_cont fun _ _ => y1_if (y1_t (ih _ _) fun _ _ => y1_l) y1_0) y1_0) y1_0)
theorem y1_head : ∀ (d k p : Nat), y1 (yp_head B len d k p) := by
  intro d
  induction d with
  | zero => intro k p; exact y1_l
  | succ d ih => intro k p; exact y1_t y1_want fun _ _ => ih _ _
theorem y1_mod : y1 (yp_mod D B len) := y1_t (y1_head _ _ _) fun _ _ => y1_secs _ _ _
end
