section
variable {α β γ δ : Type} {B : Nat → Int32} {u v w : xk_St} {L lim lim' p q fu D len : Nat} {e : Int32}
/-- what can be read with an end can be read with a later one -/
def yp_le (s t : (α × Nat) ⊕ Nat) : Prop := ∀ r, s = .inl r → t = .inl r
theorem yl_refl {s : (α × Nat) ⊕ Nat} : yp_le s s := fun _ h => h
theorem yl_no {k : Nat} {t : (α × Nat) ⊕ Nat} : yp_le (.inr k) t := fun _ h => nomatch h
theorem yl_then {s t : (α × Nat) ⊕ Nat} {g h : α → Nat → (β × Nat) ⊕ Nat} (h1 : yp_le s t) (h2 : ∀ a q, s = .inl (a, q) → yp_le (g a q) (h a q)) : yp_le (yp_then s g) (yp_then t h) := by
  intro r hr
  obtain ⟨a, q, e1, e2⟩ := yp_thenI hr
  rw [h1 _ e1, yp_then_l]
  exact h2 a q e1 _ e2
theorem yl_map {s t : (α × Nat) ⊕ Nat} {c : α → β} (h1 : yp_le s t) : yp_le (yp_map c s) (yp_map c t) := yl_then h1 fun _ _ _ => yl_refl
theorem yl_ite {c : Prop} [Decidable c] {s t s' t' : (α × Nat) ⊕ Nat} (h1 : c → yp_le s s') (h2 : ¬ c → yp_le t t') : yp_le (if c then s else t) (if c then s' else t') := by
  by_cases h : c
  · rw [if_pos h, if_pos h]; exact h1 h
  · rw [if_neg h, if_neg h]; exact h2 h
theorem yl_lim {s t : (α × Nat) ⊕ Nat} (hl : lim ≤ lim') (h : yp_le s t) : yp_le (if lim ≤ p then .inr 0 else s) (if lim' ≤ p then .inr 0 else t) := by
  by_cases h1 : lim ≤ p
  · rw [if_pos h1]; exact yl_no
  · rw [if_neg h1, if_neg (by omega)]; exact h
theorem yl_byte (hl : lim ≤ lim') : yp_le (yp_byte B lim p) (yp_byte B lim' p) := yl_lim hl yl_refl
theorem yl_peek (hl : lim ≤ lim') : yp_le (yp_peek B lim p) (yp_peek B lim' p) := yl_lim hl yl_refl
theorem yl_Ug (hl : lim ≤ lim') : ∀ (d k p : Nat) (v : Int64), yp_le (yp_Ug B lim d k p v) (yp_Ug B lim' d k p v) := by
  intro d
  induction d with
  | zero => intro k p v; exact yl_no
  | succ d ih =>
    intro k p v
    unfold yp_Ug
    exact yl_lim hl (yl_ite (fun _ => ih _ _ _) fun _ => yl_refl)
theorem yl_U (hl : lim ≤ lim') : yp_le (yp_U B lim p) (yp_U B lim' p) := yl_Ug hl _ _ _ _
theorem yl_N (hl : lim ≤ lim') : yp_le (yp_N B lim p) (yp_N B lim' p) := yl_map (yl_U hl)
theorem yl_Sg (hl : lim ≤ lim') {w : Nat} : ∀ (d k p : Nat) (v : Int64), yp_le (yp_Sg B lim w d k p v) (yp_Sg B lim' w d k p v) := by
  intro d
  induction d with
  | zero => intro k p v; exact yl_no
  | succ d ih =>
    intro k p v
    unfold yp_Sg
    exact yl_ite (fun _ => yl_refl) fun _ => yl_lim hl (yl_ite (fun _ => ih _ _ _) fun _ => yl_refl)
theorem yl_S (hl : lim ≤ lim') {w : Nat} : yp_le (yp_S B lim w p) (yp_S B lim' w p) := yl_Sg hl _ _ _ _
theorem yl_flag (hl : lim ≤ lim') : yp_le (yp_flag B lim p) (yp_flag B lim' p) := yl_then (yl_byte hl) fun _ _ _ => yl_refl
theorem yl_want (hl : lim ≤ lim') {x : Int32} : yp_le (yp_want x B lim p) (yp_want x B lim' p) := yl_then (yl_byte hl) fun _ _ _ => yl_refl
theorem yl_T (hl : lim ≤ lim') : yp_le (yp_T B lim p) (yp_T B lim' p) := yl_then (yl_peek hl) fun _ _ _ => yl_ite (fun _ => yl_refl) fun _ => yl_ite (fun _ => yl_refl) fun _ => yl_then (yl_S hl) fun _ _ _ => yl_refl
theorem yl_V (hl : lim ≤ lim') : yp_le (yp_V B lim p) (yp_V B lim' p) := yl_then (yl_byte hl) fun _ _ _ => yl_ite (fun _ => yl_then (yl_T hl) fun _ _ _ => yl_refl) fun _ => yl_ite (fun _ => yl_then (yl_T hl) fun _ _ _ => yl_refl) fun _ => yl_refl
theorem yl_F (hl : lim ≤ lim') : yp_le (yp_F B lim p) (yp_F B lim' p) := yl_then (yl_peek hl) fun _ _ _ => yl_ite (fun _ => yl_refl) fun _ => yl_ite (fun _ => yl_refl) fun _ => yl_V hl
theorem yl_fld (hl : lim ≤ lim') : yp_le (yp_fld B lim p) (yp_fld B lim' p) := yl_then (yl_F hl) fun _ _ _ => yl_then (yl_flag hl) fun _ _ _ => yl_refl
theorem yl_rep {it it' : Nat → (α × Nat) ⊕ Nat} (h : ∀ p, yp_le (it p) (it' p)) : ∀ (n p : Nat), yp_le (yp_rep it n p) (yp_rep it' n p) := by
  intro n
  induction n with
  | zero => intro p; exact yl_refl
  | succ n ih => intro p; exact yl_then (h p) fun _ _ _ => yl_then (ih _) fun _ _ _ => yl_refl
theorem yl_tf (hl : lim ≤ lim') : yp_le (yp_tf B lim p) (yp_tf B lim' p) := yl_then (yl_byte hl) fun _ _ _ => yl_ite (fun _ => yl_then (yl_rep (fun _ => yl_fld hl) _ _) fun _ _ _ => yl_refl) fun _ => yl_ite (fun _ => yl_then (yl_N hl) fun _ _ _ => yl_then (yl_rep (fun _ => yl_fld hl) _ _) fun _ _ _ => yl_refl) fun _ => yl_ite (fun _ => yl_then (yl_N hl) fun _ _ _ => yl_then (yl_rep (fun _ => yl_V hl) _ _) fun _ _ _ => yl_then (yl_N hl) fun _ _ _ => yl_then (yl_rep (fun _ => yl_V hl) _ _) fun _ _ _ => yl_refl) fun _ => yl_refl
theorem yl_place (hl : lim ≤ lim') : yp_le (yp_place B lim p) (yp_place B lim' p) := yl_then (yl_want hl) fun _ _ _ => yl_then (yl_want hl) fun _ _ _ => yl_then (yl_S hl) fun _ _ _ => yl_then (yl_want hl) fun _ _ _ => yl_refl
theorem yl_limits (hl : lim ≤ lim') : yp_le (yp_limits B lim p) (yp_limits B lim' p) := yl_then (yl_flag hl) fun _ _ _ => yl_then (yl_N hl) fun _ _ _ => yl_ite (fun _ => yl_then (yl_N hl) fun _ _ _ => yl_refl) fun _ => yl_refl
theorem yl_tab (hl : lim ≤ lim') : yp_le (yp_tab B lim p) (yp_tab B lim' p) := yl_then (yl_want hl) fun _ _ _ => yl_limits hl
theorem yl_bytes (hl : lim ≤ lim') : yp_le (yp_bytes B lim p) (yp_bytes B lim' p) := yl_then (yl_N hl) fun n q h => by
  by_cases h1 : n ≤ lim - q
  · rw [if_pos h1, if_pos (by omega)]; exact yl_refl
  · rw [if_neg h1]; exact yl_no
theorem yl_const (hl : lim ≤ lim') : yp_le (yp_const B lim p) (yp_const B lim' p) := yl_then (yl_byte hl) fun _ _ _ => yl_ite (fun _ => yl_then (yl_S hl) fun _ _ _ => yl_then (yl_want hl) fun _ _ _ => yl_refl) fun _ => yl_ite (fun _ => yl_then (yl_S hl) fun _ _ _ => yl_then (yl_want hl) fun _ _ _ => yl_refl) fun _ => yl_ite (fun _ => yl_then (yl_T hl) fun _ _ _ => yl_then (yl_want hl) fun _ _ _ => yl_refl) fun _ => yl_refl
theorem yl_glo (hl : lim ≤ lim') : yp_le (yp_glo B lim p) (yp_glo B lim' p) := yl_then (yl_V hl) fun _ _ _ => yl_then (yl_flag hl) fun _ _ _ => yl_then (yl_const hl) fun _ _ _ => yl_refl
theorem yl_exp (hl : lim ≤ lim') : yp_le (yp_exp B lim p) (yp_exp B lim' p) := yl_then (yl_bytes hl) fun _ _ _ => yl_then (yl_byte hl) fun _ _ _ => yl_ite (fun _ => yl_then (yl_N hl) fun _ _ _ => yl_refl) fun _ => yl_refl
theorem yl_da (hl : lim ≤ lim') : yp_le (yp_da B lim p) (yp_da B lim' p) := yl_then (yl_place hl) fun _ _ _ => yl_then (yl_bytes hl) fun _ _ _ => yl_refl
theorem yl_el (hl : lim ≤ lim') : yp_le (yp_el B lim p) (yp_el B lim' p) := yl_then (yl_place hl) fun _ _ _ => yl_then (yl_N hl) fun _ _ _ => yl_then (yl_rep (fun _ => yl_N hl) _ _) fun _ _ _ => yl_refl
theorem yl_loc (hl : lim ≤ lim') : yp_le (yp_loc B lim p) (yp_loc B lim' p) := yl_then (yl_N hl) fun _ _ _ => yl_then (yl_V hl) fun _ _ _ => yl_refl
theorem yl_BT (hl : lim ≤ lim') : yp_le (yp_BT B lim p) (yp_BT B lim' p) := yl_then (yl_peek hl) fun _ _ _ => yl_ite (fun _ => yl_refl) fun _ => yl_ite (fun _ => yl_then (yl_V hl) fun _ _ _ => yl_refl) fun _ => yl_then (yl_S hl) fun _ _ _ => yl_refl
theorem yl_imm (hl : lim ≤ lim') {s : Int32} : yp_le (yp_imm B lim s p) (yp_imm B lim' s p) := by
  unfold yp_imm
  repeat' with_reducible first
    | exact yl_refl
    | refine yl_ite (fun _ => ?_) (fun _ => ?_)
    | exact yl_N hl
    | exact yl_U hl
    | exact yl_S hl
    | exact yl_T hl
    | exact yl_V hl
    | exact yl_BT hl
    | exact yl_want hl
    | exact yl_rep (fun _ => yl_N hl) _ _
    | refine yl_then ?_ (fun _ _ _ => ?_)
theorem yl_ins (hl : lim ≤ lim') : yp_le (yp_ins B lim p) (yp_ins B lim' p) := yl_then (yl_byte hl) fun _ _ _ => yl_ite (fun _ => yl_then (yl_N hl) fun _ _ _ => yl_ite (fun _ => yl_then (yl_imm hl) fun _ _ _ => yl_refl) fun _ => yl_refl) fun _ => yl_then (yl_imm hl) fun _ _ _ => yl_refl
theorem yl_row {it : Nat → Nat → (α × Nat) ⊕ Nat} (hl : lim ≤ lim') (h : ∀ p, yp_le (it lim p) (it lim' p)) : yp_le (yp_row B lim (it lim) p) (yp_row B lim' (it lim') p) := yl_then (yl_N hl) fun _ _ _ => yl_rep h _ _
end
