/-- what may have been written between two states -/
def yf_fr (I J A B : List Nat) (u v : xk_St) : Prop := (∀ k, k ∉ I → v.1 k = u.1 k) ∧ (∀ k, k ∉ J → v.2.1 k = u.2.1 k) ∧ (∀ k, k ∉ A → v.2.2.1 k = u.2.2.1 k) ∧ ∀ k, k ∉ B → v.2.2.2 k = u.2.2.2 k
def yf_F {α : Type} (I J A B : List Nat) (u : xk_St) (o : Option (α × xk_St)) : Prop := ∀ r v, o = some (r, v) → yf_fr I J A B u v
def yf_sub (a b : List Nat) : Bool := a.all fun k => b.contains k
theorem yf_mem {a b : List Nat} (h : yf_sub a b = true) {k : Nat} (hk : k ∉ b) : k ∉ a := fun hm => hk (by
  have := List.all_eq_true.mp h k hm
  simpa using this)
section
variable {α β : Type} {I J A B : List Nat} {u v w : xk_St}
theorem yf_refl : yf_fr I J A B u u := ⟨fun _ _ => rfl, fun _ _ => rfl, fun _ _ => rfl, fun _ _ => rfl⟩
theorem yf_trans (h1 : yf_fr I J A B u v) (h2 : yf_fr I J A B v w) : yf_fr I J A B u w :=
  ⟨fun k hk => (h2.1 k hk).trans (h1.1 k hk), fun k hk => (h2.2.1 k hk).trans (h1.2.1 k hk), fun k hk => (h2.2.2.1 k hk).trans (h1.2.2.1 k hk), fun k hk => (h2.2.2.2 k hk).trans (h1.2.2.2 k hk)⟩
theorem yf_mono {I' J' A' B' : List Nat} (h : yf_fr I' J' A' B' u v) (hs : (yf_sub I' I && yf_sub J' J && yf_sub A' A && yf_sub B' B) = true) : yf_fr I J A B u v := by
  simp only [Bool.and_eq_true] at hs
  exact ⟨fun k hk => h.1 k (yf_mem hs.1.1.1 hk), fun k hk => h.2.1 k (yf_mem hs.1.1.2 hk), fun k hk => h.2.2.1 k (yf_mem hs.1.2 hk), fun k hk => h.2.2.2 k (yf_mem hs.2 hk)⟩
theorem yf_I {k : Nat} {x : Int32} (h : yf_fr I J A B u v) (hk : I.contains k = true) : yf_fr I J A B u (xs_I v k x) :=
  ⟨fun j hj => by
    have hne : ¬ j = k := fun e => hj (e ▸ (by simpa using hk))
    show va_up v.1 k x j = _
    rw [va_up, if_neg hne]; exact h.1 j hj, h.2.1, h.2.2.1, h.2.2.2⟩
theorem yf_J {k : Nat} {x : Int64} (h : yf_fr I J A B u v) (hk : J.contains k = true) : yf_fr I J A B u (xs_J v k x) :=
  ⟨h.1, fun j hj => by
    have hne : ¬ j = k := fun e => hj (e ▸ (by simpa using hk))
    show va_up v.2.1 k x j = _
    rw [va_up, if_neg hne]; exact h.2.1 j hj, h.2.2.1, h.2.2.2⟩
theorem yf_AA {k : Nat} {x : Nat → Int32} (h : yf_fr I J A B u v) (hk : A.contains k = true) : yf_fr I J A B u (xs_AA v k x) :=
  ⟨h.1, h.2.1, fun j hj => by
    have hne : ¬ j = k := fun e => hj (e ▸ (by simpa using hk))
    show va_up v.2.2.1 k x j = _
    rw [va_up, if_neg hne]; exact h.2.2.1 j hj, h.2.2.2⟩
theorem yf_A {k i : Nat} {x : Int32} (h : yf_fr I J A B u v) (hk : A.contains k = true) : yf_fr I J A B u (xs_A v k i x) := yf_AA h hk
theorem yf_BB {k : Nat} {x : Nat → Int64} (h : yf_fr I J A B u v) (hk : B.contains k = true) : yf_fr I J A B u (xs_BB v k x) :=
  ⟨h.1, h.2.1, h.2.2.1, fun j hj => by
    have hne : ¬ j = k := fun e => hj (e ▸ (by simpa using hk))
    show va_up v.2.2.2 k x j = _
    rw [va_up, if_neg hne]; exact h.2.2.2 j hj⟩
theorem yf_B {k i : Nat} {x : Int64} (h : yf_fr I J A B u v) (hk : B.contains k = true) : yf_fr I J A B u (xs_B v k i x) := yf_BB h hk
theorem yf_none : yf_F (α := α) I J A B u none := fun _ _ h => nomatch h
theorem yf_some {r : α} (h : yf_fr I J A B u v) : yf_F I J A B u (some (r, v)) := fun _ _ e => by
  cases e; exact h
theorem yf_ite {c : Prop} [Decidable c] {a b : Option (α × xk_St)} (h1 : yf_F I J A B u a) (h2 : yf_F I J A B u b) : yf_F I J A B u (if c then a else b) := by
  split
  · exact h1
  · exact h2
theorem yf_let {a : β} {f : β → Option (α × xk_St)} (h : yf_F I J A B u (f a)) : yf_F I J A B u (xs_let a f) := h
theorem yf_letV {a : β} {f : β → Option (α × xk_St)} (h : ∀ x, yf_F I J A B u (f x)) : yf_F I J A B u (xs_let a f) := h a
theorem yf_letS {a : xk_St} {f : xk_St → Option (α × xk_St)} (h1 : yf_fr I J A B u a) (h : ∀ x, yf_fr I J A B u x → yf_F I J A B u (f x)) : yf_F I J A B u (xs_let a f) := h a h1
theorem yf_seq {o : Option (β × xk_St)} {f : β → xk_St → Option (α × xk_St)} (h1 : yf_F I J A B u o) (h2 : ∀ r v, yf_fr I J A B u v → yf_F I J A B u (f r v)) : yf_F I J A B u (xs_seq o f) := by
  intro r v h
  obtain ⟨r1, v1, e1, e2⟩ := xp_seq h
  exact h2 r1 v1 (h1 r1 v1 e1) r v e2
theorem yf_try {o : Option ((β ⊕ Nat) × xk_St)} {f : β → xk_St → Option ((α ⊕ Nat) × xk_St)} (h1 : yf_F I J A B u o) (h2 : ∀ r v, yf_fr I J A B u v → yf_F I J A B u (f r v)) : yf_F I J A B u (xs_try o f) := by
  intro r v h
  rcases xp_try h with ⟨r1, v1, e1, e2⟩ | ⟨k, v1, e1, e2⟩
  · exact h2 r1 v1 (h1 _ v1 e1) r v e2
  · cases e2; exact h1 _ _ e1
theorem yf_cat {o : Option ((β ⊕ Nat) × xk_St)} {g : Nat → xk_St → Option (α × xk_St)} {f : β → xk_St → Option (α × xk_St)} (h1 : yf_F I J A B u o) (h2 : ∀ r v, yf_fr I J A B u v → yf_F I J A B u (g r v)) (h3 : ∀ r v, yf_fr I J A B u v → yf_F I J A B u (f r v)) : yf_F I J A B u (xs_cat o g f) := by
  intro r v h
  rcases xp_cat h with ⟨r1, v1, e1, e2⟩ | ⟨k, v1, e1, e2⟩
  · exact h3 r1 v1 (h1 _ v1 e1) r v e2
  · exact h2 k v1 (h1 _ v1 e1) r v e2
theorem yf_if {P : Prop} {o : Option (α × xk_St)} (h : yf_F I J A B u o) : yf_F I J A B u (xs_if P o) := by
  intro r v e
  exact h r v (xp_if e).2
theorem yf_call {I' J' A' B' : List Nat} {o : Option (α × xk_St)} (hw : yf_fr I J A B u w) (hc : yf_F I' J' A' B' w o) (hs : (yf_sub I' I && yf_sub J' J && yf_sub A' A && yf_sub B' B) = true) : yf_F I J A B u o := fun r v e => yf_trans hw (yf_mono (hc r v e) hs)
end
